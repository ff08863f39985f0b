def b_X10_rows_101 (R : Int32 → Int32 → Int32 → Int32 → Wd → Option (Int32 × Wd)) (K145 : Wd → Option (Int32 × Wd)) (K154 : Int32 → Int32 → Int32 → Wd → Option (Int32 × Wd)) (v1 : Int32) (v2 : Int32) (v3 : Int32) (v4 : Int32) (w : Wd) : Option (Int32 × Wd) :=
  if inb (1 : Int32) 16 = true then
  if (w.1 63 (Int32.toNatClampNeg (1 : Int32))) ≤ v4 then
  K154 v1 v2 v3 w
  else
  if v1 = (3 : Int32) then
  bd (f_X10_makeMove (1 : Int32) v4 w) fun _ w6 =>
  bd (f_X10_findMoves (2 : Int32) w6) fun _ w7 =>
  if inb (2 : Int32) 16 = true then
  lt (v2 + (w7.1 63 (Int32.toNatClampNeg (2 : Int32)))) fun x8 =>
  if x8 ≤ (20000 : Int32) then
  R v1 x8 v3 (v4 + (1 : Int32)) w7
  else
  K145 w7
  else none
  else
  K154 v1 v2 v3 w
  else none
set_option maxRecDepth 20000 in
theorem sb_X10_rows_101 {E : Ev} (hL : LM E) {R : Int32 → Int32 → Int32 → Int32 → Wd → Option (Int32 × Wd)} (hR : ∀ (v1 : Int32) (v2 : Int32) (v3 : Int32) (v4 : Int32) (w : Wd), Sim E m_X10_rows rI 101 [(0, .ref (Ea E 50)), (1, .int v1), (2, .int v2), (3, .int v3), (4, .int v4)] [] w (R v1 v2 v3 v4 w)) {K145 : Wd → Option (Int32 × Wd)} (hK145 : ∀ (w : Wd), Sim E m_X10_rows rI 145 [] [] w (K145  w)) {K154 : Int32 → Int32 → Int32 → Wd → Option (Int32 × Wd)} (hK154 : ∀ (v1 : Int32) (v2 : Int32) (v3 : Int32) (w : Wd), Sim E m_X10_rows rI 154 [(0, .ref (Ea E 50)), (1, .int v1), (2, .int v2), (3, .int v3)] [] w (K154 v1 v2 v3 w)) (v1 : Int32) (v2 : Int32) (v3 : Int32) (v4 : Int32) (w : Wd) : Sim E m_X10_rows rI 101 [(0, .ref (Ea E 50)), (1, .int v1), (2, .int v2), (3, .int v3), (4, .int v4)] [] w (b_X10_rows_101 R K145 K154 v1 v2 v3 v4 w) := by
  unfold b_X10_rows_101
  refine sim_iload 4 dX10_rows_101 rfl rfl ?_
  refine sim_aload_n 0 dX10_rows_103 rfl rfl ?_
  refine sim_get (k := 50) (ci := 8) (j := 12) (v := .ref (Ea E 63)) (hL 50 rfl) rfl (by decide) fl_X10_40 rfl dX10_rows_104 rfl ?_
  refine sim_iconst (1 : Int32) dX10_rows_107 rfl rfl ?_
  refine sim_iaload (k := 63) (hL 63 rfl) rfl rfl dX10_rows_108 rfl ?_
  refine sim_icmp_ge 154 dX10_rows_109 rfl rfl (fun _ => ?_) (fun _ => ?_)
  · exact sim_sub [0, 1, 2, 3] rfl (hK154 v1 v2 v3 w)
  · refine sim_iload_n 1 dX10_rows_112 rfl rfl ?_
    refine sim_iconst (3 : Int32) dX10_rows_113 rfl rfl ?_
    refine sim_icmp_ne 154 dX10_rows_114 rfl rfl (fun _ => ?_) (fun _ => ?_)
    · exact sim_sub [0, 1, 2, 3] rfl (hK154 v1 v2 v3 w)
    · refine sim_aload_n 0 dX10_rows_117 rfl rfl ?_
      refine sim_iconst (1 : Int32) dX10_rows_118 rfl rfl ?_
      refine sim_iload 4 dX10_rows_119 rfl rfl ?_
      refine sim_cVv (k := 50) (ci := 8) [.int (1 : Int32), .int v4] [] (c_X10_makeMove hL (1 : Int32) v4 w) (hL 50 rfl) rfl (by decide) rfl cb_X10_297 im_X10_makeMove se_X10_makeMove rfl rfl rfl (Nat.le_of_ble_eq_true rfl) dX10_rows_121 rfl (fun _ w6 => ?_)
      refine sim_aload_n 0 dX10_rows_124 rfl rfl ?_
      refine sim_iconst (2 : Int32) dX10_rows_125 rfl rfl ?_
      refine sim_cVv (k := 50) (ci := 8) [.int (2 : Int32)] [] (c_X10_findMoves hL (2 : Int32) w6) (hL 50 rfl) rfl (by decide) rfl cb_X10_255 im_X10_findMoves se_X10_findMoves rfl rfl rfl (Nat.le_of_ble_eq_true rfl) dX10_rows_126 rfl (fun _ w7 => ?_)
      refine sim_iload_n 2 dX10_rows_129 rfl rfl ?_
      refine sim_aload_n 0 dX10_rows_130 rfl rfl ?_
      refine sim_get (k := 50) (ci := 8) (j := 12) (v := .ref (Ea E 63)) (hL 50 rfl) rfl (by decide) fl_X10_40 rfl dX10_rows_131 rfl ?_
      refine sim_iconst (2 : Int32) dX10_rows_134 rfl rfl ?_
      refine sim_iaload (k := 63) (hL 63 rfl) rfl rfl dX10_rows_135 rfl ?_
      refine sim_iadd dX10_rows_136 rfl ?_
      refine sim_lt (fun x8 => ?_)
      refine sim_istore_n [(2, .int x8), (0, .ref (Ea E 50)), (1, .int v1), (3, .int v3), (4, .int v4)] dX10_rows_137 (Nat.le_of_ble_eq_true rfl) rfl rfl ?_
      refine sim_iload_n 0 dX10_rows_138 rfl rfl ?_
      refine sim_sipush (20000 : Int32) dX10_rows_139 rfl rfl ?_
      refine sim_icmp_le 148 dX10_rows_142 rfl rfl (fun _ => ?_) (fun _ => ?_)
      · refine sim_iinc (v4 + (1 : Int32)) 4 [(4, .int (v4 + (1 : Int32))), (2, .int x8), (0, .ref (Ea E 50)), (1, .int v1), (3, .int v3)] dX10_rows_148 rfl rfl (Nat.le_of_ble_eq_true rfl) rfl rfl ?_
        refine sim_goto (q := 101) dX10_rows_151 rfl ?_
        exact sim_sub [2, 3, 1, 4, 0] rfl (hR v1 x8 v3 (v4 + (1 : Int32)) w7)
      · exact sim_sub [] rfl (hK145 w7)
def l_X10_rows_101 (K145 : Wd → Option (Int32 × Wd)) (K154 : Int32 → Int32 → Int32 → Wd → Option (Int32 × Wd)) (n : Nat) : Int32 → Int32 → Int32 → Int32 → Wd → Option (Int32 × Wd) := itr (fun _ _ _ _ _ => none) (fun R => b_X10_rows_101 R K145 K154) n
set_option maxRecDepth 20000 in
theorem sl_X10_rows_101 {E : Ev} (hL : LM E) {K145 : Wd → Option (Int32 × Wd)} (hK145 : ∀ (w : Wd), Sim E m_X10_rows rI 145 [] [] w (K145  w)) {K154 : Int32 → Int32 → Int32 → Wd → Option (Int32 × Wd)} (hK154 : ∀ (v1 : Int32) (v2 : Int32) (v3 : Int32) (w : Wd), Sim E m_X10_rows rI 154 [(0, .ref (Ea E 50)), (1, .int v1), (2, .int v2), (3, .int v3)] [] w (K154 v1 v2 v3 w)) : ∀ (n : Nat) (v1 : Int32) (v2 : Int32) (v3 : Int32) (v4 : Int32) (w : Wd), Sim E m_X10_rows rI 101 [(0, .ref (Ea E 50)), (1, .int v1), (2, .int v2), (3, .int v3), (4, .int v4)] [] w (l_X10_rows_101 K145 K154 n v1 v2 v3 v4 w) := by
  intro n
  induction n with
  | zero => intros; exact sim_none
  | succ n ih => intros; exact sb_X10_rows_101 hL (R := l_X10_rows_101 K145 K154 n) ih hK145 hK154 _ _ _ _ _
def f_X10_rows_154 (R : Int32 → Int32 → Int32 → Wd → Option (Int32 × Wd)) (K145 : Wd → Option (Int32 × Wd)) (K161 : Wd → Option (Int32 × Wd)) (K170 : Int32 → Wd → Option (Int32 × Wd)) (v1 : Int32) (v2 : Int32) (v3 : Int32) (w : Wd) : Option (Int32 × Wd) :=
  if v2 ≤ (20000 : Int32) then
  R v1 v2 (v3 + (1 : Int32)) w
  else
  K161 w
set_option maxRecDepth 20000 in
theorem sf_X10_rows_154 {E : Ev} (hL : LM E) {R : Int32 → Int32 → Int32 → Wd → Option (Int32 × Wd)} (hR : ∀ (v1 : Int32) (v2 : Int32) (v3 : Int32) (w : Wd), Sim E m_X10_rows rI 63 [(0, .ref (Ea E 50)), (1, .int v1), (2, .int v2), (3, .int v3)] [] w (R v1 v2 v3 w)) {K145 : Wd → Option (Int32 × Wd)} (hK145 : ∀ (w : Wd), Sim E m_X10_rows rI 145 [] [] w (K145  w)) {K161 : Wd → Option (Int32 × Wd)} (hK161 : ∀ (w : Wd), Sim E m_X10_rows rI 161 [] [] w (K161  w)) {K170 : Int32 → Wd → Option (Int32 × Wd)} (hK170 : ∀ (v2 : Int32) (w : Wd), Sim E m_X10_rows rI 170 [(2, .int v2)] [] w (K170 v2 w)) (v1 : Int32) (v2 : Int32) (v3 : Int32) (w : Wd) : Sim E m_X10_rows rI 154 [(0, .ref (Ea E 50)), (1, .int v1), (2, .int v2), (3, .int v3)] [] w (f_X10_rows_154 R K145 K161 K170 v1 v2 v3 w) := by
  unfold f_X10_rows_154
  refine sim_iload_n 2 dX10_rows_154 rfl rfl ?_
  refine sim_sipush (20000 : Int32) dX10_rows_155 rfl rfl ?_
  refine sim_icmp_le 164 dX10_rows_158 rfl rfl (fun _ => ?_) (fun _ => ?_)
  · refine sim_iinc (v3 + (1 : Int32)) 3 [(3, .int (v3 + (1 : Int32))), (0, .ref (Ea E 50)), (1, .int v1), (2, .int v2)] dX10_rows_164 rfl rfl (Nat.le_of_ble_eq_true rfl) rfl rfl ?_
    refine sim_goto (q := 63) dX10_rows_167 rfl ?_
    exact sim_sub [1, 2, 3, 0] rfl (hR v1 v2 (v3 + (1 : Int32)) w)
  · exact sim_sub [] rfl (hK161 w)
def f_X10_rows_98 (R : Int32 → Int32 → Int32 → Wd → Option (Int32 × Wd)) (K145 : Wd → Option (Int32 × Wd)) (K161 : Wd → Option (Int32 × Wd)) (K170 : Int32 → Wd → Option (Int32 × Wd)) (v1 : Int32) (v2 : Int32) (v3 : Int32) (w : Wd) : Option (Int32 × Wd) :=
  l_X10_rows_101 K145 (f_X10_rows_154 R K145 K161 K170) FU v1 v2 v3 (0 : Int32) w
set_option maxRecDepth 20000 in
theorem sf_X10_rows_98 {E : Ev} (hL : LM E) {R : Int32 → Int32 → Int32 → Wd → Option (Int32 × Wd)} (hR : ∀ (v1 : Int32) (v2 : Int32) (v3 : Int32) (w : Wd), Sim E m_X10_rows rI 63 [(0, .ref (Ea E 50)), (1, .int v1), (2, .int v2), (3, .int v3)] [] w (R v1 v2 v3 w)) {K145 : Wd → Option (Int32 × Wd)} (hK145 : ∀ (w : Wd), Sim E m_X10_rows rI 145 [] [] w (K145  w)) {K161 : Wd → Option (Int32 × Wd)} (hK161 : ∀ (w : Wd), Sim E m_X10_rows rI 161 [] [] w (K161  w)) {K170 : Int32 → Wd → Option (Int32 × Wd)} (hK170 : ∀ (v2 : Int32) (w : Wd), Sim E m_X10_rows rI 170 [(2, .int v2)] [] w (K170 v2 w)) (v1 : Int32) (v2 : Int32) (v3 : Int32) (w : Wd) : Sim E m_X10_rows rI 98 [(0, .ref (Ea E 50)), (1, .int v1), (2, .int v2), (3, .int v3)] [] w (f_X10_rows_98 R K145 K161 K170 v1 v2 v3 w) := by
  unfold f_X10_rows_98
  refine sim_iconst (0 : Int32) dX10_rows_98 rfl rfl ?_
  refine sim_istore [(4, .int (0 : Int32)), (0, .ref (Ea E 50)), (1, .int v1), (2, .int v2), (3, .int v3)] dX10_rows_99 (Nat.le_of_ble_eq_true rfl) rfl rfl ?_
  exact sim_sub [1, 2, 3, 4, 0] rfl (sl_X10_rows_101 hL hK145 (sf_X10_rows_154 hL hR hK145 hK161 hK170) FU v1 v2 v3 (0 : Int32) w)
def b_X10_rows_63 (R : Int32 → Int32 → Int32 → Wd → Option (Int32 × Wd)) (K145 : Wd → Option (Int32 × Wd)) (K161 : Wd → Option (Int32 × Wd)) (K170 : Int32 → Wd → Option (Int32 × Wd)) (v1 : Int32) (v2 : Int32) (v3 : Int32) (w : Wd) : Option (Int32 × Wd) :=
  if inb (0 : Int32) 16 = true then
  if (w.1 63 (Int32.toNatClampNeg (0 : Int32))) ≤ v3 then
  K170 v2 w
  else
  bd (f_X10_makeMove (0 : Int32) v3 w) fun _ w4 =>
  bd (f_X10_findMoves (1 : Int32) w4) fun _ w5 =>
  if v1 = (2 : Int32) then
  if inb (1 : Int32) 16 = true then
  lt (v2 + (w5.1 63 (Int32.toNatClampNeg (1 : Int32)))) fun x9 =>
  f_X10_rows_98 R K145 K161 K170 v1 x9 v3 w5
  else none
  else
  f_X10_rows_98 R K145 K161 K170 v1 v2 v3 w5
  else none
set_option maxRecDepth 20000 in
theorem sb_X10_rows_63 {E : Ev} (hL : LM E) {R : Int32 → Int32 → Int32 → Wd → Option (Int32 × Wd)} (hR : ∀ (v1 : Int32) (v2 : Int32) (v3 : Int32) (w : Wd), Sim E m_X10_rows rI 63 [(0, .ref (Ea E 50)), (1, .int v1), (2, .int v2), (3, .int v3)] [] w (R v1 v2 v3 w)) {K145 : Wd → Option (Int32 × Wd)} (hK145 : ∀ (w : Wd), Sim E m_X10_rows rI 145 [] [] w (K145  w)) {K161 : Wd → Option (Int32 × Wd)} (hK161 : ∀ (w : Wd), Sim E m_X10_rows rI 161 [] [] w (K161  w)) {K170 : Int32 → Wd → Option (Int32 × Wd)} (hK170 : ∀ (v2 : Int32) (w : Wd), Sim E m_X10_rows rI 170 [(2, .int v2)] [] w (K170 v2 w)) (v1 : Int32) (v2 : Int32) (v3 : Int32) (w : Wd) : Sim E m_X10_rows rI 63 [(0, .ref (Ea E 50)), (1, .int v1), (2, .int v2), (3, .int v3)] [] w (b_X10_rows_63 R K145 K161 K170 v1 v2 v3 w) := by
  unfold b_X10_rows_63
  refine sim_iload_n 3 dX10_rows_63 rfl rfl ?_
  refine sim_aload_n 0 dX10_rows_64 rfl rfl ?_
  refine sim_get (k := 50) (ci := 8) (j := 12) (v := .ref (Ea E 63)) (hL 50 rfl) rfl (by decide) fl_X10_40 rfl dX10_rows_65 rfl ?_
  refine sim_iconst (0 : Int32) dX10_rows_68 rfl rfl ?_
  refine sim_iaload (k := 63) (hL 63 rfl) rfl rfl dX10_rows_69 rfl ?_
  refine sim_icmp_ge 170 dX10_rows_70 rfl rfl (fun _ => ?_) (fun _ => ?_)
  · exact sim_sub [2] rfl (hK170 v2 w)
  · refine sim_aload_n 0 dX10_rows_73 rfl rfl ?_
    refine sim_iconst (0 : Int32) dX10_rows_74 rfl rfl ?_
    refine sim_iload_n 3 dX10_rows_75 rfl rfl ?_
    refine sim_cVv (k := 50) (ci := 8) [.int (0 : Int32), .int v3] [] (c_X10_makeMove hL (0 : Int32) v3 w) (hL 50 rfl) rfl (by decide) rfl cb_X10_297 im_X10_makeMove se_X10_makeMove rfl rfl rfl (Nat.le_of_ble_eq_true rfl) dX10_rows_76 rfl (fun _ w4 => ?_)
    refine sim_aload_n 0 dX10_rows_79 rfl rfl ?_
    refine sim_iconst (1 : Int32) dX10_rows_80 rfl rfl ?_
    refine sim_cVv (k := 50) (ci := 8) [.int (1 : Int32)] [] (c_X10_findMoves hL (1 : Int32) w4) (hL 50 rfl) rfl (by decide) rfl cb_X10_255 im_X10_findMoves se_X10_findMoves rfl rfl rfl (Nat.le_of_ble_eq_true rfl) dX10_rows_81 rfl (fun _ w5 => ?_)
    refine sim_iload_n 1 dX10_rows_84 rfl rfl ?_
    refine sim_iconst (2 : Int32) dX10_rows_85 rfl rfl ?_
    refine sim_icmp_ne 98 dX10_rows_86 rfl rfl (fun _ => ?_) (fun _ => ?_)
    · exact sim_sub [0, 1, 2, 3] rfl (sf_X10_rows_98 hL hR hK145 hK161 hK170 v1 v2 v3 w5)
    · refine sim_iload_n 2 dX10_rows_89 rfl rfl ?_
      refine sim_aload_n 0 dX10_rows_90 rfl rfl ?_
      refine sim_get (k := 50) (ci := 8) (j := 12) (v := .ref (Ea E 63)) (hL 50 rfl) rfl (by decide) fl_X10_40 rfl dX10_rows_91 rfl ?_
      refine sim_iconst (1 : Int32) dX10_rows_94 rfl rfl ?_
      refine sim_iaload (k := 63) (hL 63 rfl) rfl rfl dX10_rows_95 rfl ?_
      refine sim_iadd dX10_rows_96 rfl ?_
      refine sim_lt (fun x9 => ?_)
      refine sim_istore_n [(2, .int x9), (0, .ref (Ea E 50)), (1, .int v1), (3, .int v3)] dX10_rows_97 (Nat.le_of_ble_eq_true rfl) rfl rfl ?_
      exact sim_sub [1, 2, 0, 3] rfl (sf_X10_rows_98 hL hR hK145 hK161 hK170 v1 x9 v3 w5)
def l_X10_rows_63 (K145 : Wd → Option (Int32 × Wd)) (K161 : Wd → Option (Int32 × Wd)) (K170 : Int32 → Wd → Option (Int32 × Wd)) (n : Nat) : Int32 → Int32 → Int32 → Wd → Option (Int32 × Wd) := itr (fun _ _ _ _ => none) (fun R => b_X10_rows_63 R K145 K161 K170) n
set_option maxRecDepth 20000 in
theorem sl_X10_rows_63 {E : Ev} (hL : LM E) {K145 : Wd → Option (Int32 × Wd)} (hK145 : ∀ (w : Wd), Sim E m_X10_rows rI 145 [] [] w (K145  w)) {K161 : Wd → Option (Int32 × Wd)} (hK161 : ∀ (w : Wd), Sim E m_X10_rows rI 161 [] [] w (K161  w)) {K170 : Int32 → Wd → Option (Int32 × Wd)} (hK170 : ∀ (v2 : Int32) (w : Wd), Sim E m_X10_rows rI 170 [(2, .int v2)] [] w (K170 v2 w)) : ∀ (n : Nat) (v1 : Int32) (v2 : Int32) (v3 : Int32) (w : Wd), Sim E m_X10_rows rI 63 [(0, .ref (Ea E 50)), (1, .int v1), (2, .int v2), (3, .int v3)] [] w (l_X10_rows_63 K145 K161 K170 n v1 v2 v3 w) := by
  intro n
  induction n with
  | zero => intros; exact sim_none
  | succ n ih => intros; exact sb_X10_rows_63 hL (R := l_X10_rows_63 K145 K161 K170 n) ih hK145 hK161 hK170 _ _ _ _
def f_X10_rows_145 (w : Wd) : Option (Int32 × Wd) :=
  some ((-5 : Int32), w)
set_option maxRecDepth 20000 in
theorem sf_X10_rows_145 {E : Ev} (hL : LM E) (w : Wd) : Sim E m_X10_rows rI 145 [] [] w (f_X10_rows_145 w) := by
  unfold f_X10_rows_145
  refine sim_bipush (-5 : Int32) dX10_rows_145 rfl rfl ?_
  exact sim_iret rfl dX10_rows_147
def f_X10_rows_161 (w : Wd) : Option (Int32 × Wd) :=
  some ((-5 : Int32), w)
set_option maxRecDepth 20000 in
theorem sf_X10_rows_161 {E : Ev} (hL : LM E) (w : Wd) : Sim E m_X10_rows rI 161 [] [] w (f_X10_rows_161 w) := by
  unfold f_X10_rows_161
  refine sim_bipush (-5 : Int32) dX10_rows_161 rfl rfl ?_
  exact sim_iret rfl dX10_rows_163
def f_X10_rows_170 (v2 : Int32) (w : Wd) : Option (Int32 × Wd) :=
  some (v2, w)
set_option maxRecDepth 20000 in
theorem sf_X10_rows_170 {E : Ev} (hL : LM E) (v2 : Int32) (w : Wd) : Sim E m_X10_rows rI 170 [(2, .int v2)] [] w (f_X10_rows_170 v2 w) := by
  unfold f_X10_rows_170
  refine sim_iload_n 0 dX10_rows_170 rfl rfl ?_
  exact sim_iret rfl dX10_rows_171
def f_X10_rows_60 (s0 : Int32) (w : Wd) : Option (Int32 × Wd) :=
  some (s0, w)
set_option maxRecDepth 20000 in
theorem sf_X10_rows_60 {E : Ev} (hL : LM E) (s0 : Int32) (w : Wd) : Sim E m_X10_rows rI 60 [] [.int s0] w (f_X10_rows_60 s0 w) := by
  unfold f_X10_rows_60
  exact sim_iret rfl dX10_rows_60
def f_X10_rows (v1 : Int32) (w : Wd) : Option (Int32 × Wd) :=
  bd (f_X10_in (Int32.toInt64 v1) (1 : Int64) (3 : Int64) w) fun x1 w2 =>
  if x1 = (0 : Int32) then
  some ((-2 : Int32), w2)
  else
  if (w2.1 50 25) = (0 : Int32) then
  some ((-3 : Int32), w2)
  else
  bd (f_X10_findMoves (0 : Int32) w2) fun _ w3 =>
  if v1 = (1 : Int32) then
  if inb (0 : Int32) 16 = true then
  if (w3.1 63 (Int32.toNatClampNeg (0 : Int32))) ≤ (20000 : Int32) then
  if inb (0 : Int32) 16 = true then
  f_X10_rows_60 (w3.1 63 (Int32.toNatClampNeg (0 : Int32))) w3
  else none
  else
  f_X10_rows_60 (-5 : Int32) w3
  else none
  else
  l_X10_rows_63 f_X10_rows_145 f_X10_rows_161 f_X10_rows_170 FU v1 (0 : Int32) (0 : Int32) w3
set_option maxRecDepth 20000 in
theorem c_X10_rows {E : Ev} (hL : LM E) (v1 : Int32) (w : Wd) : Ct E m_X10_rows yX10_rows rI [.ref (Ea E 50), .int v1] w (f_X10_rows v1 w) := by
  refine Ct.of (by decide) ⟨rfl, rfl⟩ (Nat.le_of_ble_eq_true rfl) ?_
  show Sim E m_X10_rows rI 0 [(0, .ref (Ea E 50)), (1, .int v1)] [] w (f_X10_rows v1 w)
  unfold f_X10_rows
  refine sim_iload_n 1 dX10_rows_0 rfl rfl ?_
  refine sim_i2l dX10_rows_1 rfl ?_
  refine sim_lconst (1 : Int64) dX10_rows_2 rfl rfl ?_
  refine sim_ldc2 (3 : Int64) dX10_rows_3 k_X10_157 rfl ?_
  refine sim_cSi [.long (Int32.toInt64 v1), .long (1 : Int64), .long (3 : Int64)] [] (c_X10_in hL (Int32.toInt64 v1) (1 : Int64) (3 : Int64) w) cb_X10_139 sx_X10_in rfl rfl rfl (Nat.le_of_ble_eq_true rfl) dX10_rows_6 rfl (fun x1 w2 => ?_)
  refine sim_if_ne 15 dX10_rows_9 rfl rfl (fun _ => ?_) (fun _ => ?_)
  · refine sim_aload_n 0 dX10_rows_15 rfl rfl ?_
    refine sim_get (k := 50) (ci := 8) (j := 25) (v := .int (w2.1 50 25)) (hL 50 rfl) rfl (by decide) fl_X10_159 rfl dX10_rows_16 rfl ?_
    refine sim_if_ne 25 dX10_rows_19 rfl rfl (fun _ => ?_) (fun _ => ?_)
    · refine sim_iconst (0 : Int32) dX10_rows_25 rfl rfl ?_
      refine sim_istore_n [(2, .int (0 : Int32)), (0, .ref (Ea E 50)), (1, .int v1)] dX10_rows_26 (Nat.le_of_ble_eq_true rfl) rfl rfl ?_
      refine sim_aload_n 1 dX10_rows_27 rfl rfl ?_
      refine sim_iconst (0 : Int32) dX10_rows_28 rfl rfl ?_
      refine sim_cVv (k := 50) (ci := 8) [.int (0 : Int32)] [] (c_X10_findMoves hL (0 : Int32) w2) (hL 50 rfl) rfl (by decide) rfl cb_X10_255 im_X10_findMoves se_X10_findMoves rfl rfl rfl (Nat.le_of_ble_eq_true rfl) dX10_rows_29 rfl (fun _ w3 => ?_)
      refine sim_iload_n 2 dX10_rows_32 rfl rfl ?_
      refine sim_iconst (1 : Int32) dX10_rows_33 rfl rfl ?_
      refine sim_icmp_ne 61 dX10_rows_34 rfl rfl (fun _ => ?_) (fun _ => ?_)
      · refine sim_iconst (0 : Int32) dX10_rows_61 rfl rfl ?_
        refine sim_istore_n [(3, .int (0 : Int32)), (2, .int (0 : Int32)), (0, .ref (Ea E 50)), (1, .int v1)] dX10_rows_62 (Nat.le_of_ble_eq_true rfl) rfl rfl ?_
        exact sim_sub [2, 3, 1, 0] rfl (sl_X10_rows_63 hL (sf_X10_rows_145 hL) (sf_X10_rows_161 hL) (sf_X10_rows_170 hL) FU v1 (0 : Int32) (0 : Int32) w3)
      · refine sim_aload_n 1 dX10_rows_37 rfl rfl ?_
        refine sim_get (k := 50) (ci := 8) (j := 12) (v := .ref (Ea E 63)) (hL 50 rfl) rfl (by decide) fl_X10_40 rfl dX10_rows_38 rfl ?_
        refine sim_iconst (0 : Int32) dX10_rows_41 rfl rfl ?_
        refine sim_iaload (k := 63) (hL 63 rfl) rfl rfl dX10_rows_42 rfl ?_
        refine sim_sipush (20000 : Int32) dX10_rows_43 rfl rfl ?_
        refine sim_icmp_le 54 dX10_rows_46 rfl rfl (fun _ => ?_) (fun _ => ?_)
        · refine sim_aload_n 1 dX10_rows_54 rfl rfl ?_
          refine sim_get (k := 50) (ci := 8) (j := 12) (v := .ref (Ea E 63)) (hL 50 rfl) rfl (by decide) fl_X10_40 rfl dX10_rows_55 rfl ?_
          refine sim_iconst (0 : Int32) dX10_rows_58 rfl rfl ?_
          refine sim_iaload (k := 63) (hL 63 rfl) rfl rfl dX10_rows_59 rfl ?_
          exact sim_sub [] rfl (sf_X10_rows_60 hL (w3.1 63 (Int32.toNatClampNeg (0 : Int32))) w3)
        · refine sim_bipush (-5 : Int32) dX10_rows_49 rfl rfl ?_
          refine sim_goto (q := 60) dX10_rows_51 rfl ?_
          exact sim_sub [] rfl (sf_X10_rows_60 hL (-5 : Int32) w3)
    · refine sim_bipush (-3 : Int32) dX10_rows_22 rfl rfl ?_
      exact sim_iret rfl dX10_rows_24
  · refine sim_bipush (-2 : Int32) dX10_rows_12 rfl rfl ?_
    exact sim_iret rfl dX10_rows_14
def b_X10_doMove_70 (R : Int32 → Int32 → Int32 → Int32 → Wd → Option (Unit × Wd)) (K100 : Int32 → Int32 → Int32 → Wd → Option (Unit × Wd)) (v1 : Int32) (v2 : Int32) (v4 : Int32) (v5 : Int32) (w : Wd) : Option (Unit × Wd) :=
  if (49 : Int32) ≤ v5 then
  K100 v1 v2 v4 w
  else
  if inb ((49 : Int32) + v5) 784 = true then
  if inb v5 784 = true then
  lw (wdI w 60 (Int32.toNatClampNeg v5) (w.1 60 (Int32.toNatClampNeg ((49 : Int32) + v5)))) fun w7 =>
  R v1 v2 v4 (v5 + (1 : Int32)) w7
  else none
  else none
set_option maxRecDepth 20000 in
theorem sb_X10_doMove_70 {E : Ev} (hL : LM E) {R : Int32 → Int32 → Int32 → Int32 → Wd → Option (Unit × Wd)} (hR : ∀ (v1 : Int32) (v2 : Int32) (v4 : Int32) (v5 : Int32) (w : Wd), Sim E m_X10_doMove rV 70 [(0, .ref (Ea E 50)), (1, .int v1), (2, .int v2), (4, .int v4), (5, .int v5)] [] w (R v1 v2 v4 v5 w)) {K100 : Int32 → Int32 → Int32 → Wd → Option (Unit × Wd)} (hK100 : ∀ (v1 : Int32) (v2 : Int32) (v4 : Int32) (w : Wd), Sim E m_X10_doMove rV 100 [(0, .ref (Ea E 50)), (1, .int v1), (2, .int v2), (4, .int v4)] [] w (K100 v1 v2 v4 w)) (v1 : Int32) (v2 : Int32) (v4 : Int32) (v5 : Int32) (w : Wd) : Sim E m_X10_doMove rV 70 [(0, .ref (Ea E 50)), (1, .int v1), (2, .int v2), (4, .int v4), (5, .int v5)] [] w (b_X10_doMove_70 R K100 v1 v2 v4 v5 w) := by
  unfold b_X10_doMove_70
  refine sim_iload 4 dX10_doMove_70 rfl rfl ?_
  refine sim_bipush (49 : Int32) dX10_doMove_72 rfl rfl ?_
  refine sim_icmp_ge 100 dX10_doMove_74 rfl rfl (fun _ => ?_) (fun _ => ?_)
  · exact sim_sub [0, 1, 2, 3] rfl (hK100 v1 v2 v4 w)
  · refine sim_aload_n 0 dX10_doMove_77 rfl rfl ?_
    refine sim_get (k := 50) (ci := 8) (j := 9) (v := .ref (Ea E 60)) (hL 50 rfl) rfl (by decide) fl_X10_31 rfl dX10_doMove_78 rfl ?_
    refine sim_iload 4 dX10_doMove_81 rfl rfl ?_
    refine sim_aload_n 0 dX10_doMove_83 rfl rfl ?_
    refine sim_get (k := 50) (ci := 8) (j := 9) (v := .ref (Ea E 60)) (hL 50 rfl) rfl (by decide) fl_X10_31 rfl dX10_doMove_84 rfl ?_
    refine sim_bipush (49 : Int32) dX10_doMove_87 rfl rfl ?_
    refine sim_iload 4 dX10_doMove_89 rfl rfl ?_
    refine sim_iadd dX10_doMove_91 rfl ?_
    refine sim_iaload (k := 60) (hL 60 rfl) rfl rfl dX10_doMove_92 rfl ?_
    refine sim_iastore (k := 60) (hL 60 rfl) rfl rfl dX10_doMove_93 rfl ?_
    refine sim_lw (fun w7 => ?_)
    refine sim_iinc (v5 + (1 : Int32)) 4 [(5, .int (v5 + (1 : Int32))), (0, .ref (Ea E 50)), (1, .int v1), (2, .int v2), (4, .int v4)] dX10_doMove_94 rfl rfl (Nat.le_of_ble_eq_true rfl) rfl rfl ?_
    refine sim_goto (q := 70) dX10_doMove_97 rfl ?_
    exact sim_sub [1, 2, 3, 4, 0] rfl (hR v1 v2 v4 (v5 + (1 : Int32)) w7)
def l_X10_doMove_70 (K100 : Int32 → Int32 → Int32 → Wd → Option (Unit × Wd)) (n : Nat) : Int32 → Int32 → Int32 → Int32 → Wd → Option (Unit × Wd) := itr (fun _ _ _ _ _ => none) (fun R => b_X10_doMove_70 R K100) n
set_option maxRecDepth 20000 in
theorem sl_X10_doMove_70 {E : Ev} (hL : LM E) {K100 : Int32 → Int32 → Int32 → Wd → Option (Unit × Wd)} (hK100 : ∀ (v1 : Int32) (v2 : Int32) (v4 : Int32) (w : Wd), Sim E m_X10_doMove rV 100 [(0, .ref (Ea E 50)), (1, .int v1), (2, .int v2), (4, .int v4)] [] w (K100 v1 v2 v4 w)) : ∀ (n : Nat) (v1 : Int32) (v2 : Int32) (v4 : Int32) (v5 : Int32) (w : Wd), Sim E m_X10_doMove rV 70 [(0, .ref (Ea E 50)), (1, .int v1), (2, .int v2), (4, .int v4), (5, .int v5)] [] w (l_X10_doMove_70 K100 n v1 v2 v4 v5 w) := by
  intro n
  induction n with
  | zero => intros; exact sim_none
  | succ n ih => intros; exact sb_X10_doMove_70 hL (R := l_X10_doMove_70 K100 n) ih hK100 _ _ _ _ _
def b_X10_doMove_103 (R : Int32 → Int32 → Int32 → Int32 → Wd → Option (Unit × Wd)) (K133 : Int32 → Int32 → Int32 → Wd → Option (Unit × Wd)) (v1 : Int32) (v2 : Int32) (v4 : Int32) (v5 : Int32) (w : Wd) : Option (Unit × Wd) :=
  if (16 : Int32) ≤ v5 then
  K133 v1 v2 v4 w
  else
  if inb ((16 : Int32) + v5) 256 = true then
  if inb v5 256 = true then
  lw (wdI w 61 (Int32.toNatClampNeg v5) (w.1 61 (Int32.toNatClampNeg ((16 : Int32) + v5)))) fun w8 =>
  R v1 v2 v4 (v5 + (1 : Int32)) w8
  else none
  else none
set_option maxRecDepth 20000 in
theorem sb_X10_doMove_103 {E : Ev} (hL : LM E) {R : Int32 → Int32 → Int32 → Int32 → Wd → Option (Unit × Wd)} (hR : ∀ (v1 : Int32) (v2 : Int32) (v4 : Int32) (v5 : Int32) (w : Wd), Sim E m_X10_doMove rV 103 [(0, .ref (Ea E 50)), (1, .int v1), (2, .int v2), (4, .int v4), (5, .int v5)] [] w (R v1 v2 v4 v5 w)) {K133 : Int32 → Int32 → Int32 → Wd → Option (Unit × Wd)} (hK133 : ∀ (v1 : Int32) (v2 : Int32) (v4 : Int32) (w : Wd), Sim E m_X10_doMove rV 133 [(0, .ref (Ea E 50)), (1, .int v1), (2, .int v2), (4, .int v4)] [] w (K133 v1 v2 v4 w)) (v1 : Int32) (v2 : Int32) (v4 : Int32) (v5 : Int32) (w : Wd) : Sim E m_X10_doMove rV 103 [(0, .ref (Ea E 50)), (1, .int v1), (2, .int v2), (4, .int v4), (5, .int v5)] [] w (b_X10_doMove_103 R K133 v1 v2 v4 v5 w) := by
  unfold b_X10_doMove_103
  refine sim_iload 4 dX10_doMove_103 rfl rfl ?_
  refine sim_bipush (16 : Int32) dX10_doMove_105 rfl rfl ?_
  refine sim_icmp_ge 133 dX10_doMove_107 rfl rfl (fun _ => ?_) (fun _ => ?_)
  · exact sim_sub [0, 1, 2, 3] rfl (hK133 v1 v2 v4 w)
  · refine sim_aload_n 0 dX10_doMove_110 rfl rfl ?_
    refine sim_get (k := 50) (ci := 8) (j := 10) (v := .ref (Ea E 61)) (hL 50 rfl) rfl (by decide) fl_X10_34 rfl dX10_doMove_111 rfl ?_
    refine sim_iload 4 dX10_doMove_114 rfl rfl ?_
    refine sim_aload_n 0 dX10_doMove_116 rfl rfl ?_
    refine sim_get (k := 50) (ci := 8) (j := 10) (v := .ref (Ea E 61)) (hL 50 rfl) rfl (by decide) fl_X10_34 rfl dX10_doMove_117 rfl ?_
    refine sim_bipush (16 : Int32) dX10_doMove_120 rfl rfl ?_
    refine sim_iload 4 dX10_doMove_122 rfl rfl ?_
    refine sim_iadd dX10_doMove_124 rfl ?_
    refine sim_iaload (k := 61) (hL 61 rfl) rfl rfl dX10_doMove_125 rfl ?_
    refine sim_iastore (k := 61) (hL 61 rfl) rfl rfl dX10_doMove_126 rfl ?_
    refine sim_lw (fun w8 => ?_)
    refine sim_iinc (v5 + (1 : Int32)) 4 [(5, .int (v5 + (1 : Int32))), (0, .ref (Ea E 50)), (1, .int v1), (2, .int v2), (4, .int v4)] dX10_doMove_127 rfl rfl (Nat.le_of_ble_eq_true rfl) rfl rfl ?_
    refine sim_goto (q := 103) dX10_doMove_130 rfl ?_
    exact sim_sub [1, 2, 3, 4, 0] rfl (hR v1 v2 v4 (v5 + (1 : Int32)) w8)
def l_X10_doMove_103 (K133 : Int32 → Int32 → Int32 → Wd → Option (Unit × Wd)) (n : Nat) : Int32 → Int32 → Int32 → Int32 → Wd → Option (Unit × Wd) := itr (fun _ _ _ _ _ => none) (fun R => b_X10_doMove_103 R K133) n
set_option maxRecDepth 20000 in
theorem sl_X10_doMove_103 {E : Ev} (hL : LM E) {K133 : Int32 → Int32 → Int32 → Wd → Option (Unit × Wd)} (hK133 : ∀ (v1 : Int32) (v2 : Int32) (v4 : Int32) (w : Wd), Sim E m_X10_doMove rV 133 [(0, .ref (Ea E 50)), (1, .int v1), (2, .int v2), (4, .int v4)] [] w (K133 v1 v2 v4 w)) : ∀ (n : Nat) (v1 : Int32) (v2 : Int32) (v4 : Int32) (v5 : Int32) (w : Wd), Sim E m_X10_doMove rV 103 [(0, .ref (Ea E 50)), (1, .int v1), (2, .int v2), (4, .int v4), (5, .int v5)] [] w (l_X10_doMove_103 K133 n v1 v2 v4 v5 w) := by
  intro n
  induction n with
  | zero => intros; exact sim_none
  | succ n ih => intros; exact sb_X10_doMove_103 hL (R := l_X10_doMove_103 K133 n) ih hK133 _ _ _ _ _
def f_X10_doMove_133 (v1 : Int32) (v2 : Int32) (v4 : Int32) (w : Wd) : Option (Unit × Wd) :=
  if inb (1 : Int32) 16 = true then
  if inb (0 : Int32) 16 = true then
  lw (wdI w 62 (Int32.toNatClampNeg (0 : Int32)) (w.1 62 (Int32.toNatClampNeg (1 : Int32)))) fun w9 =>
  if inb (0 : Int32) 16 = true then
  bd (f_X10_inCheck (0 : Int32) (w9.1 62 (Int32.toNatClampNeg (0 : Int32))) w9) fun x10 w11 =>
  if inb v4 600 = true then
  lw (wdI w11 85 (Int32.toNatClampNeg v4) (vp_nar .boolean x10)) fun w12 =>
  bd (f_X10_keepStand v1 (v2 + (1 : Int32)) w12) fun _ w13 =>
  some ((), w13)
  else none
  else none
  else none
  else none
set_option maxRecDepth 20000 in
theorem sf_X10_doMove_133 {E : Ev} (hL : LM E) (v1 : Int32) (v2 : Int32) (v4 : Int32) (w : Wd) : Sim E m_X10_doMove rV 133 [(0, .ref (Ea E 50)), (1, .int v1), (2, .int v2), (4, .int v4)] [] w (f_X10_doMove_133 v1 v2 v4 w) := by
  unfold f_X10_doMove_133
  refine sim_aload_n 0 dX10_doMove_133 rfl rfl ?_
  refine sim_get (k := 50) (ci := 8) (j := 11) (v := .ref (Ea E 62)) (hL 50 rfl) rfl (by decide) fl_X10_37 rfl dX10_doMove_134 rfl ?_
  refine sim_iconst (0 : Int32) dX10_doMove_137 rfl rfl ?_
  refine sim_aload_n 0 dX10_doMove_138 rfl rfl ?_
  refine sim_get (k := 50) (ci := 8) (j := 11) (v := .ref (Ea E 62)) (hL 50 rfl) rfl (by decide) fl_X10_37 rfl dX10_doMove_139 rfl ?_
  refine sim_iconst (1 : Int32) dX10_doMove_142 rfl rfl ?_
  refine sim_iaload (k := 62) (hL 62 rfl) rfl rfl dX10_doMove_143 rfl ?_
  refine sim_iastore (k := 62) (hL 62 rfl) rfl rfl dX10_doMove_144 rfl ?_
  refine sim_lw (fun w9 => ?_)
  refine sim_aload_n 0 dX10_doMove_145 rfl rfl ?_
  refine sim_get (k := 50) (ci := 8) (j := 34) (v := .ref (Ea E 85)) (hL 50 rfl) rfl (by decide) fl_X10_101 rfl dX10_doMove_146 rfl ?_
  refine sim_iload 3 dX10_doMove_149 rfl rfl ?_
  refine sim_aload_n 0 dX10_doMove_151 rfl rfl ?_
  refine sim_iconst (0 : Int32) dX10_doMove_152 rfl rfl ?_
  refine sim_aload_n 0 dX10_doMove_153 rfl rfl ?_
  refine sim_get (k := 50) (ci := 8) (j := 11) (v := .ref (Ea E 62)) (hL 50 rfl) rfl (by decide) fl_X10_37 rfl dX10_doMove_154 rfl ?_
  refine sim_iconst (0 : Int32) dX10_doMove_157 rfl rfl ?_
  refine sim_iaload (k := 62) (hL 62 rfl) rfl rfl dX10_doMove_158 rfl ?_
  refine sim_cVi (k := 50) (ci := 8) [.int (0 : Int32), .int (w9.1 62 (Int32.toNatClampNeg (0 : Int32)))] [.int v4, .ref (Ea E 85)] (c_X10_inCheck hL (0 : Int32) (w9.1 62 (Int32.toNatClampNeg (0 : Int32))) w9) (hL 50 rfl) rfl (by decide) rfl cb_X10_241 im_X10_inCheck se_X10_inCheck rfl rfl rfl (Nat.le_of_ble_eq_true rfl) dX10_doMove_159 rfl (fun x10 w11 => ?_)
  refine sim_bastore (k := 85) (hL 85 rfl) rfl rfl dX10_doMove_162 rfl ?_
  refine sim_lw (fun w12 => ?_)
  refine sim_aload_n 0 dX10_doMove_163 rfl rfl ?_
  refine sim_iload_n 1 dX10_doMove_164 rfl rfl ?_
  refine sim_iload_n 2 dX10_doMove_165 rfl rfl ?_
  refine sim_iconst (1 : Int32) dX10_doMove_166 rfl rfl ?_
  refine sim_iadd dX10_doMove_167 rfl ?_
  refine sim_cVv (k := 50) (ci := 8) [.int v1, .int (v2 + (1 : Int32))] [] (c_X10_keepStand hL v1 (v2 + (1 : Int32)) w12) (hL 50 rfl) rfl (by decide) rfl cb_X10_279 im_X10_keepStand se_X10_keepStand rfl rfl rfl (Nat.le_of_ble_eq_true rfl) dX10_doMove_168 rfl (fun _ w13 => ?_)
  exact sim_vret rfl dX10_doMove_171
def f_X10_doMove_100 (v1 : Int32) (v2 : Int32) (v4 : Int32) (w : Wd) : Option (Unit × Wd) :=
  l_X10_doMove_103 f_X10_doMove_133 FU v1 v2 v4 (0 : Int32) w
set_option maxRecDepth 20000 in
theorem sf_X10_doMove_100 {E : Ev} (hL : LM E) (v1 : Int32) (v2 : Int32) (v4 : Int32) (w : Wd) : Sim E m_X10_doMove rV 100 [(0, .ref (Ea E 50)), (1, .int v1), (2, .int v2), (4, .int v4)] [] w (f_X10_doMove_100 v1 v2 v4 w) := by
  unfold f_X10_doMove_100
  refine sim_iconst (0 : Int32) dX10_doMove_100 rfl rfl ?_
  refine sim_istore [(5, .int (0 : Int32)), (0, .ref (Ea E 50)), (1, .int v1), (2, .int v2), (4, .int v4)] dX10_doMove_101 (Nat.le_of_ble_eq_true rfl) rfl rfl ?_
  exact sim_sub [1, 2, 3, 4, 0] rfl (sl_X10_doMove_103 hL (sf_X10_doMove_133 hL) FU v1 v2 v4 (0 : Int32) w)
def f_X10_doMove (v1 : Int32) (v2 : Int32) (v3 : Int32) (w : Wd) : Option (Unit × Wd) :=
  lt (((300 : Int32) * v1) + v2) fun x1 =>
  if inb v3 32000 = true then
  if inb x1 600 = true then
  lw (wdI w 81 (Int32.toNatClampNeg x1) (w.1 64 (Int32.toNatClampNeg v3))) fun w2 =>
  if inb v3 32000 = true then
  if inb x1 600 = true then
  lw (wdI w2 82 (Int32.toNatClampNeg x1) (w2.1 65 (Int32.toNatClampNeg v3))) fun w3 =>
  if inb v3 32000 = true then
  if inb x1 600 = true then
  lw (wdI w3 83 (Int32.toNatClampNeg x1) (w3.1 66 (Int32.toNatClampNeg v3))) fun w4 =>
  if inb v3 32000 = true then
  if inb x1 600 = true then
  lw (wdI w4 84 (Int32.toNatClampNeg x1) (w4.1 67 (Int32.toNatClampNeg v3))) fun w5 =>
  bd (f_X10_makeMove (0 : Int32) v3 w5) fun _ w6 =>
  l_X10_doMove_70 f_X10_doMove_100 FU v1 v2 x1 (0 : Int32) w6
  else none
  else none
  else none
  else none
  else none
  else none
  else none
  else none
set_option maxRecDepth 20000 in
theorem c_X10_doMove {E : Ev} (hL : LM E) (v1 : Int32) (v2 : Int32) (v3 : Int32) (w : Wd) : Ct E m_X10_doMove yX10_doMove rV [.ref (Ea E 50), .int v1, .int v2, .int v3] w (f_X10_doMove v1 v2 v3 w) := by
  refine Ct.of (by decide) ⟨rfl, rfl⟩ (Nat.le_of_ble_eq_true rfl) ?_
  show Sim E m_X10_doMove rV 0 [(0, .ref (Ea E 50)), (1, .int v1), (2, .int v2), (3, .int v3)] [] w (f_X10_doMove v1 v2 v3 w)
  unfold f_X10_doMove
  refine sim_sipush (300 : Int32) dX10_doMove_0 rfl rfl ?_
  refine sim_iload_n 1 dX10_doMove_3 rfl rfl ?_
  refine sim_imul dX10_doMove_4 rfl ?_
  refine sim_iload_n 2 dX10_doMove_5 rfl rfl ?_
  refine sim_iadd dX10_doMove_6 rfl ?_
  refine sim_lt (fun x1 => ?_)
  refine sim_istore [(4, .int x1), (0, .ref (Ea E 50)), (1, .int v1), (2, .int v2), (3, .int v3)] dX10_doMove_7 (Nat.le_of_ble_eq_true rfl) rfl rfl ?_
  refine sim_aload_n 1 dX10_doMove_9 rfl rfl ?_
  refine sim_get (k := 50) (ci := 8) (j := 30) (v := .ref (Ea E 81)) (hL 50 rfl) rfl (by decide) fl_X10_89 rfl dX10_doMove_10 rfl ?_
  refine sim_iload 0 dX10_doMove_13 rfl rfl ?_
  refine sim_aload_n 1 dX10_doMove_15 rfl rfl ?_
  refine sim_get (k := 50) (ci := 8) (j := 13) (v := .ref (Ea E 64)) (hL 50 rfl) rfl (by decide) fl_X10_43 rfl dX10_doMove_16 rfl ?_
  refine sim_iload_n 4 dX10_doMove_19 rfl rfl ?_
  refine sim_iaload (k := 64) (hL 64 rfl) rfl rfl dX10_doMove_20 rfl ?_
  refine sim_iastore (k := 81) (hL 81 rfl) rfl rfl dX10_doMove_21 rfl ?_
  refine sim_lw (fun w2 => ?_)
  refine sim_aload_n 1 dX10_doMove_22 rfl rfl ?_
  refine sim_get (k := 50) (ci := 8) (j := 31) (v := .ref (Ea E 82)) (hL 50 rfl) rfl (by decide) fl_X10_92 rfl dX10_doMove_23 rfl ?_
  refine sim_iload 0 dX10_doMove_26 rfl rfl ?_
  refine sim_aload_n 1 dX10_doMove_28 rfl rfl ?_
  refine sim_get (k := 50) (ci := 8) (j := 14) (v := .ref (Ea E 65)) (hL 50 rfl) rfl (by decide) fl_X10_46 rfl dX10_doMove_29 rfl ?_
  refine sim_iload_n 4 dX10_doMove_32 rfl rfl ?_
  refine sim_iaload (k := 65) (hL 65 rfl) rfl rfl dX10_doMove_33 rfl ?_
  refine sim_iastore (k := 82) (hL 82 rfl) rfl rfl dX10_doMove_34 rfl ?_
  refine sim_lw (fun w3 => ?_)
  refine sim_aload_n 1 dX10_doMove_35 rfl rfl ?_
  refine sim_get (k := 50) (ci := 8) (j := 32) (v := .ref (Ea E 83)) (hL 50 rfl) rfl (by decide) fl_X10_95 rfl dX10_doMove_36 rfl ?_
  refine sim_iload 0 dX10_doMove_39 rfl rfl ?_
  refine sim_aload_n 1 dX10_doMove_41 rfl rfl ?_
  refine sim_get (k := 50) (ci := 8) (j := 15) (v := .ref (Ea E 66)) (hL 50 rfl) rfl (by decide) fl_X10_49 rfl dX10_doMove_42 rfl ?_
  refine sim_iload_n 4 dX10_doMove_45 rfl rfl ?_
  refine sim_iaload (k := 66) (hL 66 rfl) rfl rfl dX10_doMove_46 rfl ?_
  refine sim_iastore (k := 83) (hL 83 rfl) rfl rfl dX10_doMove_47 rfl ?_
  refine sim_lw (fun w4 => ?_)
  refine sim_aload_n 1 dX10_doMove_48 rfl rfl ?_
  refine sim_get (k := 50) (ci := 8) (j := 33) (v := .ref (Ea E 84)) (hL 50 rfl) rfl (by decide) fl_X10_98 rfl dX10_doMove_49 rfl ?_
  refine sim_iload 0 dX10_doMove_52 rfl rfl ?_
  refine sim_aload_n 1 dX10_doMove_54 rfl rfl ?_
  refine sim_get (k := 50) (ci := 8) (j := 16) (v := .ref (Ea E 67)) (hL 50 rfl) rfl (by decide) fl_X10_52 rfl dX10_doMove_55 rfl ?_
  refine sim_iload_n 4 dX10_doMove_58 rfl rfl ?_
  refine sim_iaload (k := 67) (hL 67 rfl) rfl rfl dX10_doMove_59 rfl ?_
  refine sim_iastore (k := 84) (hL 84 rfl) rfl rfl dX10_doMove_60 rfl ?_
  refine sim_lw (fun w5 => ?_)
  refine sim_aload_n 1 dX10_doMove_61 rfl rfl ?_
  refine sim_iconst (0 : Int32) dX10_doMove_62 rfl rfl ?_
  refine sim_iload_n 4 dX10_doMove_63 rfl rfl ?_
  refine sim_cVv (k := 50) (ci := 8) [.int (0 : Int32), .int v3] [] (c_X10_makeMove hL (0 : Int32) v3 w5) (hL 50 rfl) rfl (by decide) rfl cb_X10_297 im_X10_makeMove se_X10_makeMove rfl rfl rfl (Nat.le_of_ble_eq_true rfl) dX10_doMove_64 rfl (fun _ w6 => ?_)
  refine sim_iconst (0 : Int32) dX10_doMove_67 rfl rfl ?_
  refine sim_istore [(5, .int (0 : Int32)), (4, .int x1), (0, .ref (Ea E 50)), (1, .int v1), (2, .int v2), (3, .int v3)] dX10_doMove_68 (Nat.le_of_ble_eq_true rfl) rfl rfl ?_
  exact sim_sub [2, 3, 4, 1, 0] rfl (sl_X10_doMove_70 hL (sf_X10_doMove_100 hL) FU v1 v2 x1 (0 : Int32) w6)
def f_X10_go (v1 : Int32) (w : Wd) : Option (Int32 × Wd) :=
  if (w.1 50 25) = (0 : Int32) then
  some ((-3 : Int32), w)
  else
  bd (f_X10_findMoves (0 : Int32) w) fun _ w1 =>
  if inb (0 : Int32) 16 = true then
  bd (f_X10_in (Int32.toInt64 v1) (0 : Int64) (Int32.toInt64 ((w1.1 63 (Int32.toNatClampNeg (0 : Int32))) - (1 : Int32))) w1) fun x2 w3 =>
  if x2 = (0 : Int32) then
  some ((-2 : Int32), w3)
  else
  if (w3.1 50 38) = (0 : Int32) then
  if (w3.1 50 36) = (300 : Int32) then
  some ((-4 : Int32), w3)
  else
  bd (f_X10_doMove (w3.1 50 35) (w3.1 50 36) v1 w3) fun _ w4 =>
  lw (wdI w4 50 36 ((w4.1 50 36) + (1 : Int32))) fun w5 =>
  lw (wdI w5 50 37 (w5.1 50 36)) fun w6 =>
  bd (f_X10_stateOf (w6.1 50 35) (w6.1 50 36) w6) fun x7 w8 =>
  lw (wdI w8 50 38 x7) fun w9 =>
  some ((w9.1 50 38), w9)
  else
  some ((-3 : Int32), w3)
  else none
set_option maxRecDepth 20000 in
theorem c_X10_go {E : Ev} (hL : LM E) (v1 : Int32) (w : Wd) : Ct E m_X10_go yX10_go rI [.ref (Ea E 50), .int v1] w (f_X10_go v1 w) := by
  refine Ct.of (by decide) ⟨rfl, rfl⟩ (Nat.le_of_ble_eq_true rfl) ?_
  show Sim E m_X10_go rI 0 [(0, .ref (Ea E 50)), (1, .int v1)] [] w (f_X10_go v1 w)
  unfold f_X10_go
  refine sim_aload_n 0 dX10_go_0 rfl rfl ?_
  refine sim_get (k := 50) (ci := 8) (j := 25) (v := .int (w.1 50 25)) (hL 50 rfl) rfl (by decide) fl_X10_159 rfl dX10_go_1 rfl ?_
  refine sim_if_ne 10 dX10_go_4 rfl rfl (fun _ => ?_) (fun _ => ?_)
  · refine sim_aload_n 0 dX10_go_10 rfl rfl ?_
    refine sim_iconst (0 : Int32) dX10_go_11 rfl rfl ?_
    refine sim_cVv (k := 50) (ci := 8) [.int (0 : Int32)] [] (c_X10_findMoves hL (0 : Int32) w) (hL 50 rfl) rfl (by decide) rfl cb_X10_255 im_X10_findMoves se_X10_findMoves rfl rfl rfl (Nat.le_of_ble_eq_true rfl) dX10_go_12 rfl (fun _ w1 => ?_)
    refine sim_iload_n 1 dX10_go_15 rfl rfl ?_
    refine sim_i2l dX10_go_16 rfl ?_
    refine sim_lconst (0 : Int64) dX10_go_17 rfl rfl ?_
    refine sim_aload_n 0 dX10_go_18 rfl rfl ?_
    refine sim_get (k := 50) (ci := 8) (j := 12) (v := .ref (Ea E 63)) (hL 50 rfl) rfl (by decide) fl_X10_40 rfl dX10_go_19 rfl ?_
    refine sim_iconst (0 : Int32) dX10_go_22 rfl rfl ?_
    refine sim_iaload (k := 63) (hL 63 rfl) rfl rfl dX10_go_23 rfl ?_
    refine sim_iconst (1 : Int32) dX10_go_24 rfl rfl ?_
    refine sim_isub dX10_go_25 rfl ?_
    refine sim_i2l dX10_go_26 rfl ?_
    refine sim_cSi [.long (Int32.toInt64 v1), .long (0 : Int64), .long (Int32.toInt64 ((w1.1 63 (Int32.toNatClampNeg (0 : Int32))) - (1 : Int32)))] [] (c_X10_in hL (Int32.toInt64 v1) (0 : Int64) (Int32.toInt64 ((w1.1 63 (Int32.toNatClampNeg (0 : Int32))) - (1 : Int32))) w1) cb_X10_139 sx_X10_in rfl rfl rfl (Nat.le_of_ble_eq_true rfl) dX10_go_27 rfl (fun x2 w3 => ?_)
    refine sim_if_ne 36 dX10_go_30 rfl rfl (fun _ => ?_) (fun _ => ?_)
    · refine sim_aload_n 0 dX10_go_36 rfl rfl ?_
      refine sim_get (k := 50) (ci := 8) (j := 38) (v := .int (w3.1 50 38)) (hL 50 rfl) rfl (by decide) fl_X10_286 rfl dX10_go_37 rfl ?_
      refine sim_if_eq 46 dX10_go_40 rfl rfl (fun _ => ?_) (fun _ => ?_)
      · refine sim_aload_n 0 dX10_go_46 rfl rfl ?_
        refine sim_get (k := 50) (ci := 8) (j := 36) (v := .int (w3.1 50 36)) (hL 50 rfl) rfl (by decide) fl_X10_273 rfl dX10_go_47 rfl ?_
        refine sim_sipush (300 : Int32) dX10_go_50 rfl rfl ?_
        refine sim_icmp_ne 59 dX10_go_53 rfl rfl (fun _ => ?_) (fun _ => ?_)
        · refine sim_aload_n 0 dX10_go_59 rfl rfl ?_
          refine sim_aload_n 0 dX10_go_60 rfl rfl ?_
          refine sim_get (k := 50) (ci := 8) (j := 35) (v := .int (w3.1 50 35)) (hL 50 rfl) rfl (by decide) fl_X10_270 rfl dX10_go_61 rfl ?_
          refine sim_aload_n 0 dX10_go_64 rfl rfl ?_
          refine sim_get (k := 50) (ci := 8) (j := 36) (v := .int (w3.1 50 36)) (hL 50 rfl) rfl (by decide) fl_X10_273 rfl dX10_go_65 rfl ?_
          refine sim_iload_n 1 dX10_go_68 rfl rfl ?_
          refine sim_cVv (k := 50) (ci := 8) [.int (w3.1 50 35), .int (w3.1 50 36), .int v1] [] (c_X10_doMove hL (w3.1 50 35) (w3.1 50 36) v1 w3) (hL 50 rfl) rfl (by decide) rfl cb_X10_300 im_X10_doMove se_X10_doMove rfl rfl rfl (Nat.le_of_ble_eq_true rfl) dX10_go_69 rfl (fun _ w4 => ?_)
          refine sim_aload_n 0 dX10_go_72 rfl rfl ?_
          refine sim_dup dX10_go_73 rfl rfl ?_
          refine sim_get (k := 50) (ci := 8) (j := 36) (v := .int (w4.1 50 36)) (hL 50 rfl) rfl (by decide) fl_X10_273 rfl dX10_go_74 rfl ?_
          refine sim_iconst (1 : Int32) dX10_go_77 rfl rfl ?_
          refine sim_iadd dX10_go_78 rfl ?_
          refine sim_put (k := 50) (ci := 8) (j := 36) (hL 50 rfl) rfl (by decide) fp_X10_273 rfl rfl (st_50_36 _ _ _) (Nat.le_of_ble_eq_true rfl) dX10_go_79 rfl ?_
          refine sim_lw (fun w5 => ?_)
          refine sim_aload_n 0 dX10_go_82 rfl rfl ?_
          refine sim_aload_n 0 dX10_go_83 rfl rfl ?_
          refine sim_get (k := 50) (ci := 8) (j := 36) (v := .int (w5.1 50 36)) (hL 50 rfl) rfl (by decide) fl_X10_273 rfl dX10_go_84 rfl ?_
          refine sim_put (k := 50) (ci := 8) (j := 37) (hL 50 rfl) rfl (by decide) fp_X10_276 rfl rfl (st_50_37 _ _ _) (Nat.le_of_ble_eq_true rfl) dX10_go_87 rfl ?_
          refine sim_lw (fun w6 => ?_)
          refine sim_aload_n 0 dX10_go_90 rfl rfl ?_
          refine sim_aload_n 0 dX10_go_91 rfl rfl ?_
          refine sim_aload_n 0 dX10_go_92 rfl rfl ?_
          refine sim_get (k := 50) (ci := 8) (j := 35) (v := .int (w6.1 50 35)) (hL 50 rfl) rfl (by decide) fl_X10_270 rfl dX10_go_93 rfl ?_
          refine sim_aload_n 0 dX10_go_96 rfl rfl ?_
          refine sim_get (k := 50) (ci := 8) (j := 36) (v := .int (w6.1 50 36)) (hL 50 rfl) rfl (by decide) fl_X10_273 rfl dX10_go_97 rfl ?_
          refine sim_cVi (k := 50) (ci := 8) [.int (w6.1 50 35), .int (w6.1 50 36)] [.ref (Ea E 50)] (c_X10_stateOf hL (w6.1 50 35) (w6.1 50 36) w6) (hL 50 rfl) rfl (by decide) rfl cb_X10_283 im_X10_stateOf se_X10_stateOf rfl rfl rfl (Nat.le_of_ble_eq_true rfl) dX10_go_100 rfl (fun x7 w8 => ?_)
          refine sim_put (k := 50) (ci := 8) (j := 38) (hL 50 rfl) rfl (by decide) fp_X10_286 rfl rfl (st_50_38 _ _ _) (Nat.le_of_ble_eq_true rfl) dX10_go_103 rfl ?_
          refine sim_lw (fun w9 => ?_)
          refine sim_aload_n 0 dX10_go_106 rfl rfl ?_
          refine sim_get (k := 50) (ci := 8) (j := 38) (v := .int (w9.1 50 38)) (hL 50 rfl) rfl (by decide) fl_X10_286 rfl dX10_go_107 rfl ?_
          exact sim_iret rfl dX10_go_110
        · refine sim_bipush (-4 : Int32) dX10_go_56 rfl rfl ?_
          exact sim_iret rfl dX10_go_58
      · refine sim_bipush (-3 : Int32) dX10_go_43 rfl rfl ?_
        exact sim_iret rfl dX10_go_45
    · refine sim_bipush (-2 : Int32) dX10_go_33 rfl rfl ?_
      exact sim_iret rfl dX10_go_35
  · refine sim_bipush (-3 : Int32) dX10_go_7 rfl rfl ?_
    exact sim_iret rfl dX10_go_9
def f_X10_back_14 (w : Wd) : Option (Int32 × Wd) :=
  some ((-3 : Int32), w)
set_option maxRecDepth 20000 in
theorem sf_X10_back_14 {E : Ev} (hL : LM E) (w : Wd) : Sim E m_X10_back rI 14 [] [] w (f_X10_back_14 w) := by
  unfold f_X10_back_14
  refine sim_bipush (-3 : Int32) dX10_back_14 rfl rfl ?_
  exact sim_iret rfl dX10_back_16
def f_X10_back (w : Wd) : Option (Int32 × Wd) :=
  if (w.1 50 25) = (0 : Int32) then
  f_X10_back_14 w
  else
  if (w.1 50 36) = (0 : Int32) then
  f_X10_back_14 w
  else
  lw (wdI w 50 36 ((w.1 50 36) - (1 : Int32))) fun w1 =>
  bd (f_X10_layStand (w1.1 50 35) (w1.1 50 36) w1) fun _ w2 =>
  bd (f_X10_stateOf (w2.1 50 35) (w2.1 50 36) w2) fun x3 w4 =>
  lw (wdI w4 50 38 x3) fun w5 =>
  some ((w5.1 50 36), w5)
set_option maxRecDepth 20000 in
theorem c_X10_back {E : Ev} (hL : LM E) (w : Wd) : Ct E m_X10_back yX10_back rI [.ref (Ea E 50)] w (f_X10_back w) := by
  refine Ct.of (by decide) ⟨rfl, rfl⟩ (Nat.le_of_ble_eq_true rfl) ?_
  show Sim E m_X10_back rI 0 [(0, .ref (Ea E 50))] [] w (f_X10_back w)
  unfold f_X10_back
  refine sim_aload_n 0 dX10_back_0 rfl rfl ?_
  refine sim_get (k := 50) (ci := 8) (j := 25) (v := .int (w.1 50 25)) (hL 50 rfl) rfl (by decide) fl_X10_159 rfl dX10_back_1 rfl ?_
  refine sim_if_eq 14 dX10_back_4 rfl rfl (fun _ => ?_) (fun _ => ?_)
  · exact sim_sub [] rfl (sf_X10_back_14 hL w)
  · refine sim_aload_n 0 dX10_back_7 rfl rfl ?_
    refine sim_get (k := 50) (ci := 8) (j := 36) (v := .int (w.1 50 36)) (hL 50 rfl) rfl (by decide) fl_X10_273 rfl dX10_back_8 rfl ?_
    refine sim_if_ne 17 dX10_back_11 rfl rfl (fun _ => ?_) (fun _ => ?_)
    · refine sim_aload_n 0 dX10_back_17 rfl rfl ?_
      refine sim_dup dX10_back_18 rfl rfl ?_
      refine sim_get (k := 50) (ci := 8) (j := 36) (v := .int (w.1 50 36)) (hL 50 rfl) rfl (by decide) fl_X10_273 rfl dX10_back_19 rfl ?_
      refine sim_iconst (1 : Int32) dX10_back_22 rfl rfl ?_
      refine sim_isub dX10_back_23 rfl ?_
      refine sim_put (k := 50) (ci := 8) (j := 36) (hL 50 rfl) rfl (by decide) fp_X10_273 rfl rfl (st_50_36 _ _ _) (Nat.le_of_ble_eq_true rfl) dX10_back_24 rfl ?_
      refine sim_lw (fun w1 => ?_)
      refine sim_aload_n 0 dX10_back_27 rfl rfl ?_
      refine sim_aload_n 0 dX10_back_28 rfl rfl ?_
      refine sim_get (k := 50) (ci := 8) (j := 35) (v := .int (w1.1 50 35)) (hL 50 rfl) rfl (by decide) fl_X10_270 rfl dX10_back_29 rfl ?_
      refine sim_aload_n 0 dX10_back_32 rfl rfl ?_
      refine sim_get (k := 50) (ci := 8) (j := 36) (v := .int (w1.1 50 36)) (hL 50 rfl) rfl (by decide) fl_X10_273 rfl dX10_back_33 rfl ?_
      refine sim_cVv (k := 50) (ci := 8) [.int (w1.1 50 35), .int (w1.1 50 36)] [] (c_X10_layStand hL (w1.1 50 35) (w1.1 50 36) w1) (hL 50 rfl) rfl (by decide) rfl cb_X10_303 im_X10_layStand se_X10_layStand rfl rfl rfl (Nat.le_of_ble_eq_true rfl) dX10_back_36 rfl (fun _ w2 => ?_)
      refine sim_aload_n 0 dX10_back_39 rfl rfl ?_
      refine sim_aload_n 0 dX10_back_40 rfl rfl ?_
      refine sim_aload_n 0 dX10_back_41 rfl rfl ?_
      refine sim_get (k := 50) (ci := 8) (j := 35) (v := .int (w2.1 50 35)) (hL 50 rfl) rfl (by decide) fl_X10_270 rfl dX10_back_42 rfl ?_
      refine sim_aload_n 0 dX10_back_45 rfl rfl ?_
      refine sim_get (k := 50) (ci := 8) (j := 36) (v := .int (w2.1 50 36)) (hL 50 rfl) rfl (by decide) fl_X10_273 rfl dX10_back_46 rfl ?_
      refine sim_cVi (k := 50) (ci := 8) [.int (w2.1 50 35), .int (w2.1 50 36)] [.ref (Ea E 50)] (c_X10_stateOf hL (w2.1 50 35) (w2.1 50 36) w2) (hL 50 rfl) rfl (by decide) rfl cb_X10_283 im_X10_stateOf se_X10_stateOf rfl rfl rfl (Nat.le_of_ble_eq_true rfl) dX10_back_49 rfl (fun x3 w4 => ?_)
      refine sim_put (k := 50) (ci := 8) (j := 38) (hL 50 rfl) rfl (by decide) fp_X10_286 rfl rfl (st_50_38 _ _ _) (Nat.le_of_ble_eq_true rfl) dX10_back_52 rfl ?_
      refine sim_lw (fun w5 => ?_)
      refine sim_aload_n 0 dX10_back_55 rfl rfl ?_
      refine sim_get (k := 50) (ci := 8) (j := 36) (v := .int (w5.1 50 36)) (hL 50 rfl) rfl (by decide) fl_X10_273 rfl dX10_back_56 rfl ?_
      exact sim_iret rfl dX10_back_59
    · exact sim_sub [] rfl (sf_X10_back_14 hL w)
def f_X10_forth_18 (w : Wd) : Option (Int32 × Wd) :=
  some ((-3 : Int32), w)
set_option maxRecDepth 20000 in
theorem sf_X10_forth_18 {E : Ev} (hL : LM E) (w : Wd) : Sim E m_X10_forth rI 18 [] [] w (f_X10_forth_18 w) := by
  unfold f_X10_forth_18
  refine sim_bipush (-3 : Int32) dX10_forth_18 rfl rfl ?_
  exact sim_iret rfl dX10_forth_20
def f_X10_forth (w : Wd) : Option (Int32 × Wd) :=
  if (w.1 50 25) = (0 : Int32) then
  f_X10_forth_18 w
  else
  if (w.1 50 36) = (w.1 50 37) then
  f_X10_forth_18 w
  else
  lw (wdI w 50 36 ((w.1 50 36) + (1 : Int32))) fun w1 =>
  bd (f_X10_layStand (w1.1 50 35) (w1.1 50 36) w1) fun _ w2 =>
  bd (f_X10_stateOf (w2.1 50 35) (w2.1 50 36) w2) fun x3 w4 =>
  lw (wdI w4 50 38 x3) fun w5 =>
  some ((w5.1 50 36), w5)
set_option maxRecDepth 20000 in
theorem c_X10_forth {E : Ev} (hL : LM E) (w : Wd) : Ct E m_X10_forth yX10_forth rI [.ref (Ea E 50)] w (f_X10_forth w) := by
  refine Ct.of (by decide) ⟨rfl, rfl⟩ (Nat.le_of_ble_eq_true rfl) ?_
  show Sim E m_X10_forth rI 0 [(0, .ref (Ea E 50))] [] w (f_X10_forth w)
  unfold f_X10_forth
  refine sim_aload_n 0 dX10_forth_0 rfl rfl ?_
  refine sim_get (k := 50) (ci := 8) (j := 25) (v := .int (w.1 50 25)) (hL 50 rfl) rfl (by decide) fl_X10_159 rfl dX10_forth_1 rfl ?_
  refine sim_if_eq 18 dX10_forth_4 rfl rfl (fun _ => ?_) (fun _ => ?_)
  · exact sim_sub [] rfl (sf_X10_forth_18 hL w)
  · refine sim_aload_n 0 dX10_forth_7 rfl rfl ?_
    refine sim_get (k := 50) (ci := 8) (j := 36) (v := .int (w.1 50 36)) (hL 50 rfl) rfl (by decide) fl_X10_273 rfl dX10_forth_8 rfl ?_
    refine sim_aload_n 0 dX10_forth_11 rfl rfl ?_
    refine sim_get (k := 50) (ci := 8) (j := 37) (v := .int (w.1 50 37)) (hL 50 rfl) rfl (by decide) fl_X10_276 rfl dX10_forth_12 rfl ?_
    refine sim_icmp_ne 21 dX10_forth_15 rfl rfl (fun _ => ?_) (fun _ => ?_)
    · refine sim_aload_n 0 dX10_forth_21 rfl rfl ?_
      refine sim_dup dX10_forth_22 rfl rfl ?_
      refine sim_get (k := 50) (ci := 8) (j := 36) (v := .int (w.1 50 36)) (hL 50 rfl) rfl (by decide) fl_X10_273 rfl dX10_forth_23 rfl ?_
      refine sim_iconst (1 : Int32) dX10_forth_26 rfl rfl ?_
      refine sim_iadd dX10_forth_27 rfl ?_
      refine sim_put (k := 50) (ci := 8) (j := 36) (hL 50 rfl) rfl (by decide) fp_X10_273 rfl rfl (st_50_36 _ _ _) (Nat.le_of_ble_eq_true rfl) dX10_forth_28 rfl ?_
      refine sim_lw (fun w1 => ?_)
      refine sim_aload_n 0 dX10_forth_31 rfl rfl ?_
      refine sim_aload_n 0 dX10_forth_32 rfl rfl ?_
      refine sim_get (k := 50) (ci := 8) (j := 35) (v := .int (w1.1 50 35)) (hL 50 rfl) rfl (by decide) fl_X10_270 rfl dX10_forth_33 rfl ?_
      refine sim_aload_n 0 dX10_forth_36 rfl rfl ?_
      refine sim_get (k := 50) (ci := 8) (j := 36) (v := .int (w1.1 50 36)) (hL 50 rfl) rfl (by decide) fl_X10_273 rfl dX10_forth_37 rfl ?_
      refine sim_cVv (k := 50) (ci := 8) [.int (w1.1 50 35), .int (w1.1 50 36)] [] (c_X10_layStand hL (w1.1 50 35) (w1.1 50 36) w1) (hL 50 rfl) rfl (by decide) rfl cb_X10_303 im_X10_layStand se_X10_layStand rfl rfl rfl (Nat.le_of_ble_eq_true rfl) dX10_forth_40 rfl (fun _ w2 => ?_)
      refine sim_aload_n 0 dX10_forth_43 rfl rfl ?_
      refine sim_aload_n 0 dX10_forth_44 rfl rfl ?_
      refine sim_aload_n 0 dX10_forth_45 rfl rfl ?_
      refine sim_get (k := 50) (ci := 8) (j := 35) (v := .int (w2.1 50 35)) (hL 50 rfl) rfl (by decide) fl_X10_270 rfl dX10_forth_46 rfl ?_
      refine sim_aload_n 0 dX10_forth_49 rfl rfl ?_
      refine sim_get (k := 50) (ci := 8) (j := 36) (v := .int (w2.1 50 36)) (hL 50 rfl) rfl (by decide) fl_X10_273 rfl dX10_forth_50 rfl ?_
      refine sim_cVi (k := 50) (ci := 8) [.int (w2.1 50 35), .int (w2.1 50 36)] [.ref (Ea E 50)] (c_X10_stateOf hL (w2.1 50 35) (w2.1 50 36) w2) (hL 50 rfl) rfl (by decide) rfl cb_X10_283 im_X10_stateOf se_X10_stateOf rfl rfl rfl (Nat.le_of_ble_eq_true rfl) dX10_forth_53 rfl (fun x3 w4 => ?_)
      refine sim_put (k := 50) (ci := 8) (j := 38) (hL 50 rfl) rfl (by decide) fp_X10_286 rfl rfl (st_50_38 _ _ _) (Nat.le_of_ble_eq_true rfl) dX10_forth_56 rfl ?_
      refine sim_lw (fun w5 => ?_)
      refine sim_aload_n 0 dX10_forth_59 rfl rfl ?_
      refine sim_get (k := 50) (ci := 8) (j := 36) (v := .int (w5.1 50 36)) (hL 50 rfl) rfl (by decide) fl_X10_273 rfl dX10_forth_60 rfl ?_
      exact sim_iret rfl dX10_forth_63
    · exact sim_sub [] rfl (sf_X10_forth_18 hL w)
def f_X10_play_135 (s0 : Int32) (w : Wd) : Option (Int32 × Wd) :=
  some (s0, w)
set_option maxRecDepth 20000 in
theorem sf_X10_play_135 {E : Ev} (hL : LM E) (s0 : Int32) (w : Wd) : Sim E m_X10_play rI 135 [] [.int s0] w (f_X10_play_135 s0 w) := by
  unfold f_X10_play_135
  exact sim_iret rfl dX10_play_135
def f_X10_play_134 (w : Wd) : Option (Int32 × Wd) :=
  f_X10_play_135 (0 : Int32) w
set_option maxRecDepth 20000 in
theorem sf_X10_play_134 {E : Ev} (hL : LM E) (w : Wd) : Sim E m_X10_play rI 134 [] [] w (f_X10_play_134 w) := by
  unfold f_X10_play_134
  refine sim_iconst (0 : Int32) dX10_play_134 rfl rfl ?_
  exact sim_sub [] rfl (sf_X10_play_135 hL (0 : Int32) w)
def f_X10_play (v1 : Int32) (w : Wd) : Option (Int32 × Wd) :=
  bd (f_X10_in (Int32.toInt64 v1) (0 : Int64) (5 : Int64) w) fun x1 w2 =>
  if x1 = (0 : Int32) then
  some ((-2 : Int32), w2)
  else
  if (w2.1 50 25) = (0 : Int32) then
  some ((-3 : Int32), w2)
  else
  if v1 = (0 : Int32) then
  if inb (0 : Int32) 16 = true then
  some ((w2.1 62 (Int32.toNatClampNeg (0 : Int32))), w2)
  else none
  else
  if v1 = (1 : Int32) then
  some ((w2.1 50 38), w2)
  else
  if v1 = (2 : Int32) then
  some ((w2.1 50 36), w2)
  else
  if v1 = (3 : Int32) then
  some (((w2.1 50 37) - (w2.1 50 36)), w2)
  else
  if v1 = (4 : Int32) then
  bd (f_X10_comes (w2.1 50 35) (w2.1 50 36) w2) fun x3 w4 =>
  some (x3, w4)
  else
  if (w2.1 50 36) ≤ (0 : Int32) then
  f_X10_play_134 w2
  else
  if inb ((((300 : Int32) * (w2.1 50 35)) + (w2.1 50 36)) - (1 : Int32)) 600 = true then
  if (w2.1 85 (Int32.toNatClampNeg ((((300 : Int32) * (w2.1 50 35)) + (w2.1 50 36)) - (1 : Int32)))) = (0 : Int32) then
  f_X10_play_134 w2
  else
  f_X10_play_135 (1 : Int32) w2
  else none
set_option maxRecDepth 20000 in
theorem c_X10_play {E : Ev} (hL : LM E) (v1 : Int32) (w : Wd) : Ct E m_X10_play yX10_play rI [.ref (Ea E 50), .int v1] w (f_X10_play v1 w) := by
  refine Ct.of (by decide) ⟨rfl, rfl⟩ (Nat.le_of_ble_eq_true rfl) ?_
  show Sim E m_X10_play rI 0 [(0, .ref (Ea E 50)), (1, .int v1)] [] w (f_X10_play v1 w)
  unfold f_X10_play
  refine sim_iload_n 1 dX10_play_0 rfl rfl ?_
  refine sim_i2l dX10_play_1 rfl ?_
  refine sim_lconst (0 : Int64) dX10_play_2 rfl rfl ?_
  refine sim_ldc2 (5 : Int64) dX10_play_3 k_X10_135 rfl ?_
  refine sim_cSi [.long (Int32.toInt64 v1), .long (0 : Int64), .long (5 : Int64)] [] (c_X10_in hL (Int32.toInt64 v1) (0 : Int64) (5 : Int64) w) cb_X10_139 sx_X10_in rfl rfl rfl (Nat.le_of_ble_eq_true rfl) dX10_play_6 rfl (fun x1 w2 => ?_)
  refine sim_if_ne 15 dX10_play_9 rfl rfl (fun _ => ?_) (fun _ => ?_)
  · refine sim_aload_n 0 dX10_play_15 rfl rfl ?_
    refine sim_get (k := 50) (ci := 8) (j := 25) (v := .int (w2.1 50 25)) (hL 50 rfl) rfl (by decide) fl_X10_159 rfl dX10_play_16 rfl ?_
    refine sim_if_ne 25 dX10_play_19 rfl rfl (fun _ => ?_) (fun _ => ?_)
    · refine sim_iload_n 1 dX10_play_25 rfl rfl ?_
      refine sim_tab5 60 67 72 77 87 100 dX10_play_26 rfl rfl rfl rfl rfl rfl ?_ ?_ ?_ ?_ ?_ ?_
      · refine sim_aload_n 0 dX10_play_60 rfl rfl ?_
        refine sim_get (k := 50) (ci := 8) (j := 11) (v := .ref (Ea E 62)) (hL 50 rfl) rfl (by decide) fl_X10_37 rfl dX10_play_61 rfl ?_
        refine sim_iconst (0 : Int32) dX10_play_64 rfl rfl ?_
        refine sim_iaload (k := 62) (hL 62 rfl) rfl rfl dX10_play_65 rfl ?_
        exact sim_iret rfl dX10_play_66
      · refine sim_aload_n 0 dX10_play_67 rfl rfl ?_
        refine sim_get (k := 50) (ci := 8) (j := 38) (v := .int (w2.1 50 38)) (hL 50 rfl) rfl (by decide) fl_X10_286 rfl dX10_play_68 rfl ?_
        exact sim_iret rfl dX10_play_71
      · refine sim_aload_n 0 dX10_play_72 rfl rfl ?_
        refine sim_get (k := 50) (ci := 8) (j := 36) (v := .int (w2.1 50 36)) (hL 50 rfl) rfl (by decide) fl_X10_273 rfl dX10_play_73 rfl ?_
        exact sim_iret rfl dX10_play_76
      · refine sim_aload_n 0 dX10_play_77 rfl rfl ?_
        refine sim_get (k := 50) (ci := 8) (j := 37) (v := .int (w2.1 50 37)) (hL 50 rfl) rfl (by decide) fl_X10_276 rfl dX10_play_78 rfl ?_
        refine sim_aload_n 0 dX10_play_81 rfl rfl ?_
        refine sim_get (k := 50) (ci := 8) (j := 36) (v := .int (w2.1 50 36)) (hL 50 rfl) rfl (by decide) fl_X10_273 rfl dX10_play_82 rfl ?_
        refine sim_isub dX10_play_85 rfl ?_
        exact sim_iret rfl dX10_play_86
      · refine sim_aload_n 0 dX10_play_87 rfl rfl ?_
        refine sim_aload_n 0 dX10_play_88 rfl rfl ?_
        refine sim_get (k := 50) (ci := 8) (j := 35) (v := .int (w2.1 50 35)) (hL 50 rfl) rfl (by decide) fl_X10_270 rfl dX10_play_89 rfl ?_
        refine sim_aload_n 0 dX10_play_92 rfl rfl ?_
        refine sim_get (k := 50) (ci := 8) (j := 36) (v := .int (w2.1 50 36)) (hL 50 rfl) rfl (by decide) fl_X10_273 rfl dX10_play_93 rfl ?_
        refine sim_cVi (k := 50) (ci := 8) [.int (w2.1 50 35), .int (w2.1 50 36)] [] (c_X10_comes hL (w2.1 50 35) (w2.1 50 36) w2) (hL 50 rfl) rfl (by decide) rfl cb_X10_258 im_X10_comes se_X10_comes rfl rfl rfl (Nat.le_of_ble_eq_true rfl) dX10_play_96 rfl (fun x3 w4 => ?_)
        exact sim_iret rfl dX10_play_99
      · refine sim_aload_n 0 dX10_play_100 rfl rfl ?_
        refine sim_get (k := 50) (ci := 8) (j := 36) (v := .int (w2.1 50 36)) (hL 50 rfl) rfl (by decide) fl_X10_273 rfl dX10_play_101 rfl ?_
        refine sim_if_le 134 dX10_play_104 rfl rfl (fun _ => ?_) (fun _ => ?_)
        · exact sim_sub [] rfl (sf_X10_play_134 hL w2)
        · refine sim_aload_n 0 dX10_play_107 rfl rfl ?_
          refine sim_get (k := 50) (ci := 8) (j := 34) (v := .ref (Ea E 85)) (hL 50 rfl) rfl (by decide) fl_X10_101 rfl dX10_play_108 rfl ?_
          refine sim_sipush (300 : Int32) dX10_play_111 rfl rfl ?_
          refine sim_aload_n 0 dX10_play_114 rfl rfl ?_
          refine sim_get (k := 50) (ci := 8) (j := 35) (v := .int (w2.1 50 35)) (hL 50 rfl) rfl (by decide) fl_X10_270 rfl dX10_play_115 rfl ?_
          refine sim_imul dX10_play_118 rfl ?_
          refine sim_aload_n 0 dX10_play_119 rfl rfl ?_
          refine sim_get (k := 50) (ci := 8) (j := 36) (v := .int (w2.1 50 36)) (hL 50 rfl) rfl (by decide) fl_X10_273 rfl dX10_play_120 rfl ?_
          refine sim_iadd dX10_play_123 rfl ?_
          refine sim_iconst (1 : Int32) dX10_play_124 rfl rfl ?_
          refine sim_isub dX10_play_125 rfl ?_
          refine sim_baload (k := 85) (hL 85 rfl) rfl rfl dX10_play_126 rfl ?_
          refine sim_if_eq 134 dX10_play_127 rfl rfl (fun _ => ?_) (fun _ => ?_)
          · exact sim_sub [] rfl (sf_X10_play_134 hL w2)
          · refine sim_iconst (1 : Int32) dX10_play_130 rfl rfl ?_
            refine sim_goto (q := 135) dX10_play_131 rfl ?_
            exact sim_sub [] rfl (sf_X10_play_135 hL (1 : Int32) w2)
    · refine sim_bipush (-3 : Int32) dX10_play_22 rfl rfl ?_
      exact sim_iret rfl dX10_play_24
  · refine sim_bipush (-2 : Int32) dX10_play_12 rfl rfl ?_
    exact sim_iret rfl dX10_play_14
def f_X10_fuel (v1 : Int32) (w : Wd) : Option (Int32 × Wd) :=
  bd (f_X10_in (Int32.toInt64 v1) (1 : Int64) (1000 : Int64) w) fun x1 w2 =>
  if x1 = (0 : Int32) then
  some ((-2 : Int32), w2)
  else
  lt (w2.1 50 39) fun x3 =>
  lw (wdI w2 50 39 v1) fun w4 =>
  some (x3, w4)
set_option maxRecDepth 20000 in
theorem c_X10_fuel {E : Ev} (hL : LM E) (v1 : Int32) (w : Wd) : Ct E m_X10_fuel yX10_fuel rI [.ref (Ea E 50), .int v1] w (f_X10_fuel v1 w) := by
  refine Ct.of (by decide) ⟨rfl, rfl⟩ (Nat.le_of_ble_eq_true rfl) ?_
  show Sim E m_X10_fuel rI 0 [(0, .ref (Ea E 50)), (1, .int v1)] [] w (f_X10_fuel v1 w)
  unfold f_X10_fuel
  refine sim_iload_n 1 dX10_fuel_0 rfl rfl ?_
  refine sim_i2l dX10_fuel_1 rfl ?_
  refine sim_lconst (1 : Int64) dX10_fuel_2 rfl rfl ?_
  refine sim_ldc2 (1000 : Int64) dX10_fuel_3 k_X10_306 rfl ?_
  refine sim_cSi [.long (Int32.toInt64 v1), .long (1 : Int64), .long (1000 : Int64)] [] (c_X10_in hL (Int32.toInt64 v1) (1 : Int64) (1000 : Int64) w) cb_X10_139 sx_X10_in rfl rfl rfl (Nat.le_of_ble_eq_true rfl) dX10_fuel_6 rfl (fun x1 w2 => ?_)
  refine sim_if_ne 15 dX10_fuel_9 rfl rfl (fun _ => ?_) (fun _ => ?_)
  · refine sim_aload_n 0 dX10_fuel_15 rfl rfl ?_
    refine sim_get (k := 50) (ci := 8) (j := 39) (v := .int (w2.1 50 39)) (hL 50 rfl) rfl (by decide) fl_X10_104 rfl dX10_fuel_16 rfl ?_
    refine sim_lt (fun x3 => ?_)
    refine sim_istore_n [(2, .int x3), (0, .ref (Ea E 50)), (1, .int v1)] dX10_fuel_19 (Nat.le_of_ble_eq_true rfl) rfl rfl ?_
    refine sim_aload_n 1 dX10_fuel_20 rfl rfl ?_
    refine sim_iload_n 2 dX10_fuel_21 rfl rfl ?_
    refine sim_put (k := 50) (ci := 8) (j := 39) (hL 50 rfl) rfl (by decide) fp_X10_104 rfl rfl (st_50_39 _ _ _) (Nat.le_of_ble_eq_true rfl) dX10_fuel_22 rfl ?_
    refine sim_lw (fun w4 => ?_)
    refine sim_iload_n 0 dX10_fuel_25 rfl rfl ?_
    exact sim_iret rfl dX10_fuel_26
  · refine sim_bipush (-2 : Int32) dX10_fuel_12 rfl rfl ?_
    exact sim_iret rfl dX10_fuel_14
def f_X10_notes_60 (v1 : Int32) (v2 : Int32) (s1 : Int32) (s2 : Int32) (w : Wd) : Option (Int32 × Wd) :=
  if inb s1 1100 = true then
  lw (wdI w 93 (Int32.toNatClampNeg s1) s2) fun w3 =>
  if inb v2 32000 = true then
  if inb (w3.1 50 41) 1100 = true then
  lw (wdI w3 94 (Int32.toNatClampNeg (w3.1 50 41)) (w3.1 64 (Int32.toNatClampNeg v2))) fun w4 =>
  if inb v2 32000 = true then
  if inb (w4.1 50 41) 1100 = true then
  lw (wdI w4 95 (Int32.toNatClampNeg (w4.1 50 41)) (w4.1 65 (Int32.toNatClampNeg v2))) fun w5 =>
  if inb v2 32000 = true then
  if inb (w5.1 50 41) 1100 = true then
  lw (wdI w5 96 (Int32.toNatClampNeg (w5.1 50 41)) (w5.1 66 (Int32.toNatClampNeg v2))) fun w6 =>
  if inb v2 32000 = true then
  if inb (w6.1 50 41) 1100 = true then
  lw (wdI w6 97 (Int32.toNatClampNeg (w6.1 50 41)) (w6.1 67 (Int32.toNatClampNeg v2))) fun w7 =>
  if inb (w7.1 50 41) 1100 = true then
  lw (wdI w7 98 (Int32.toNatClampNeg (w7.1 50 41)) v1) fun w8 =>
  if inb v1 16 = true then
  lw (wdI w8 100 (Int32.toNatClampNeg v1) (w8.1 50 41)) fun w9 =>
  lw (wdI w9 50 41 ((w9.1 50 41) + (1 : Int32))) fun w10 =>
  if zb (1 : Int32) = true then some ((1 : Int32), w10) else none
  else none
  else none
  else none
  else none
  else none
  else none
  else none
  else none
  else none
  else none
  else none
set_option maxRecDepth 20000 in
theorem sf_X10_notes_60 {E : Ev} (hL : LM E) (v1 : Int32) (v2 : Int32) (s1 : Int32) (s2 : Int32) (w : Wd) : Sim E m_X10_notes rI 60 [(0, .ref (Ea E 50)), (1, .int v1), (2, .int v2)] [.int s2, .int s1, .ref (Ea E 93)] w (f_X10_notes_60 v1 v2 s1 s2 w) := by
  unfold f_X10_notes_60
  refine sim_iastore (k := 93) (hL 93 rfl) rfl rfl dX10_notes_60 rfl ?_
  refine sim_lw (fun w3 => ?_)
  refine sim_aload_n 0 dX10_notes_61 rfl rfl ?_
  refine sim_get (k := 50) (ci := 8) (j := 43) (v := .ref (Ea E 94)) (hL 50 rfl) rfl (by decide) fl_X10_111 rfl dX10_notes_62 rfl ?_
  refine sim_aload_n 0 dX10_notes_65 rfl rfl ?_
  refine sim_get (k := 50) (ci := 8) (j := 41) (v := .int (w3.1 50 41)) (hL 50 rfl) rfl (by decide) fl_X10_289 rfl dX10_notes_66 rfl ?_
  refine sim_aload_n 0 dX10_notes_69 rfl rfl ?_
  refine sim_get (k := 50) (ci := 8) (j := 13) (v := .ref (Ea E 64)) (hL 50 rfl) rfl (by decide) fl_X10_43 rfl dX10_notes_70 rfl ?_
  refine sim_iload_n 2 dX10_notes_73 rfl rfl ?_
  refine sim_iaload (k := 64) (hL 64 rfl) rfl rfl dX10_notes_74 rfl ?_
  refine sim_iastore (k := 94) (hL 94 rfl) rfl rfl dX10_notes_75 rfl ?_
  refine sim_lw (fun w4 => ?_)
  refine sim_aload_n 0 dX10_notes_76 rfl rfl ?_
  refine sim_get (k := 50) (ci := 8) (j := 44) (v := .ref (Ea E 95)) (hL 50 rfl) rfl (by decide) fl_X10_114 rfl dX10_notes_77 rfl ?_
  refine sim_aload_n 0 dX10_notes_80 rfl rfl ?_
  refine sim_get (k := 50) (ci := 8) (j := 41) (v := .int (w4.1 50 41)) (hL 50 rfl) rfl (by decide) fl_X10_289 rfl dX10_notes_81 rfl ?_
  refine sim_aload_n 0 dX10_notes_84 rfl rfl ?_
  refine sim_get (k := 50) (ci := 8) (j := 14) (v := .ref (Ea E 65)) (hL 50 rfl) rfl (by decide) fl_X10_46 rfl dX10_notes_85 rfl ?_
  refine sim_iload_n 2 dX10_notes_88 rfl rfl ?_
  refine sim_iaload (k := 65) (hL 65 rfl) rfl rfl dX10_notes_89 rfl ?_
  refine sim_iastore (k := 95) (hL 95 rfl) rfl rfl dX10_notes_90 rfl ?_
  refine sim_lw (fun w5 => ?_)
  refine sim_aload_n 0 dX10_notes_91 rfl rfl ?_
  refine sim_get (k := 50) (ci := 8) (j := 45) (v := .ref (Ea E 96)) (hL 50 rfl) rfl (by decide) fl_X10_117 rfl dX10_notes_92 rfl ?_
  refine sim_aload_n 0 dX10_notes_95 rfl rfl ?_
  refine sim_get (k := 50) (ci := 8) (j := 41) (v := .int (w5.1 50 41)) (hL 50 rfl) rfl (by decide) fl_X10_289 rfl dX10_notes_96 rfl ?_
  refine sim_aload_n 0 dX10_notes_99 rfl rfl ?_
  refine sim_get (k := 50) (ci := 8) (j := 15) (v := .ref (Ea E 66)) (hL 50 rfl) rfl (by decide) fl_X10_49 rfl dX10_notes_100 rfl ?_
  refine sim_iload_n 2 dX10_notes_103 rfl rfl ?_
  refine sim_iaload (k := 66) (hL 66 rfl) rfl rfl dX10_notes_104 rfl ?_
  refine sim_iastore (k := 96) (hL 96 rfl) rfl rfl dX10_notes_105 rfl ?_
  refine sim_lw (fun w6 => ?_)
  refine sim_aload_n 0 dX10_notes_106 rfl rfl ?_
  refine sim_get (k := 50) (ci := 8) (j := 46) (v := .ref (Ea E 97)) (hL 50 rfl) rfl (by decide) fl_X10_120 rfl dX10_notes_107 rfl ?_
  refine sim_aload_n 0 dX10_notes_110 rfl rfl ?_
  refine sim_get (k := 50) (ci := 8) (j := 41) (v := .int (w6.1 50 41)) (hL 50 rfl) rfl (by decide) fl_X10_289 rfl dX10_notes_111 rfl ?_
  refine sim_aload_n 0 dX10_notes_114 rfl rfl ?_
  refine sim_get (k := 50) (ci := 8) (j := 16) (v := .ref (Ea E 67)) (hL 50 rfl) rfl (by decide) fl_X10_52 rfl dX10_notes_115 rfl ?_
  refine sim_iload_n 2 dX10_notes_118 rfl rfl ?_
  refine sim_iaload (k := 67) (hL 67 rfl) rfl rfl dX10_notes_119 rfl ?_
  refine sim_iastore (k := 97) (hL 97 rfl) rfl rfl dX10_notes_120 rfl ?_
  refine sim_lw (fun w7 => ?_)
  refine sim_aload_n 0 dX10_notes_121 rfl rfl ?_
  refine sim_get (k := 50) (ci := 8) (j := 47) (v := .ref (Ea E 98)) (hL 50 rfl) rfl (by decide) fl_X10_123 rfl dX10_notes_122 rfl ?_
  refine sim_aload_n 0 dX10_notes_125 rfl rfl ?_
  refine sim_get (k := 50) (ci := 8) (j := 41) (v := .int (w7.1 50 41)) (hL 50 rfl) rfl (by decide) fl_X10_289 rfl dX10_notes_126 rfl ?_
  refine sim_iload_n 1 dX10_notes_129 rfl rfl ?_
  refine sim_iastore (k := 98) (hL 98 rfl) rfl rfl dX10_notes_130 rfl ?_
  refine sim_lw (fun w8 => ?_)
  refine sim_aload_n 0 dX10_notes_131 rfl rfl ?_
  refine sim_get (k := 50) (ci := 8) (j := 49) (v := .ref (Ea E 100)) (hL 50 rfl) rfl (by decide) fl_X10_129 rfl dX10_notes_132 rfl ?_
  refine sim_iload_n 1 dX10_notes_135 rfl rfl ?_
  refine sim_aload_n 0 dX10_notes_136 rfl rfl ?_
  refine sim_get (k := 50) (ci := 8) (j := 41) (v := .int (w8.1 50 41)) (hL 50 rfl) rfl (by decide) fl_X10_289 rfl dX10_notes_137 rfl ?_
  refine sim_iastore (k := 100) (hL 100 rfl) rfl rfl dX10_notes_140 rfl ?_
  refine sim_lw (fun w9 => ?_)
  refine sim_aload_n 0 dX10_notes_141 rfl rfl ?_
  refine sim_dup dX10_notes_142 rfl rfl ?_
  refine sim_get (k := 50) (ci := 8) (j := 41) (v := .int (w9.1 50 41)) (hL 50 rfl) rfl (by decide) fl_X10_289 rfl dX10_notes_143 rfl ?_
  refine sim_iconst (1 : Int32) dX10_notes_146 rfl rfl ?_
  refine sim_iadd dX10_notes_147 rfl ?_
  refine sim_put (k := 50) (ci := 8) (j := 41) (hL 50 rfl) rfl (by decide) fp_X10_289 rfl rfl (st_50_41 _ _ _) (Nat.le_of_ble_eq_true rfl) dX10_notes_148 rfl ?_
  refine sim_lw (fun w10 => ?_)
  refine sim_iconst (1 : Int32) dX10_notes_151 rfl rfl ?_
  exact sim_zret rfl dX10_notes_152
def f_X10_notes (v1 : Int32) (w : Wd) : Option (Int32 × Wd) :=
  if (w.1 50 40) = (w.1 50 39) then
  if zb (0 : Int32) = true then some ((0 : Int32), w) else none
  else
  lw (wdI w 50 40 ((w.1 50 40) + (1 : Int32))) fun w1 =>
  if inb v1 16 = true then
  lt (((2000 : Int32) * v1) + (w1.1 99 (Int32.toNatClampNeg v1))) fun x2 =>
  if v1 = (0 : Int32) then
  f_X10_notes_60 v1 x2 (w1.1 50 41) (-1 : Int32) w1
  else
  if inb (v1 - (1 : Int32)) 16 = true then
  f_X10_notes_60 v1 x2 (w1.1 50 41) (w1.1 100 (Int32.toNatClampNeg (v1 - (1 : Int32)))) w1
  else none
  else none
set_option maxRecDepth 20000 in
theorem c_X10_notes {E : Ev} (hL : LM E) (v1 : Int32) (w : Wd) : Ct E m_X10_notes yX10_notes rI [.ref (Ea E 50), .int v1] w (f_X10_notes v1 w) := by
  refine Ct.of (by decide) ⟨rfl, rfl⟩ (Nat.le_of_ble_eq_true rfl) ?_
  show Sim E m_X10_notes rI 0 [(0, .ref (Ea E 50)), (1, .int v1)] [] w (f_X10_notes v1 w)
  unfold f_X10_notes
  refine sim_aload_n 0 dX10_notes_0 rfl rfl ?_
  refine sim_get (k := 50) (ci := 8) (j := 40) (v := .int (w.1 50 40)) (hL 50 rfl) rfl (by decide) fl_X10_308 rfl dX10_notes_1 rfl ?_
  refine sim_aload_n 0 dX10_notes_4 rfl rfl ?_
  refine sim_get (k := 50) (ci := 8) (j := 39) (v := .int (w.1 50 39)) (hL 50 rfl) rfl (by decide) fl_X10_104 rfl dX10_notes_5 rfl ?_
  refine sim_icmp_ne 13 dX10_notes_8 rfl rfl (fun _ => ?_) (fun _ => ?_)
  · refine sim_aload_n 0 dX10_notes_13 rfl rfl ?_
    refine sim_dup dX10_notes_14 rfl rfl ?_
    refine sim_get (k := 50) (ci := 8) (j := 40) (v := .int (w.1 50 40)) (hL 50 rfl) rfl (by decide) fl_X10_308 rfl dX10_notes_15 rfl ?_
    refine sim_iconst (1 : Int32) dX10_notes_18 rfl rfl ?_
    refine sim_iadd dX10_notes_19 rfl ?_
    refine sim_put (k := 50) (ci := 8) (j := 40) (hL 50 rfl) rfl (by decide) fp_X10_308 rfl rfl (st_50_40 _ _ _) (Nat.le_of_ble_eq_true rfl) dX10_notes_20 rfl ?_
    refine sim_lw (fun w1 => ?_)
    refine sim_sipush (2000 : Int32) dX10_notes_23 rfl rfl ?_
    refine sim_iload_n 1 dX10_notes_26 rfl rfl ?_
    refine sim_imul dX10_notes_27 rfl ?_
    refine sim_aload_n 0 dX10_notes_28 rfl rfl ?_
    refine sim_get (k := 50) (ci := 8) (j := 48) (v := .ref (Ea E 99)) (hL 50 rfl) rfl (by decide) fl_X10_126 rfl dX10_notes_29 rfl ?_
    refine sim_iload_n 1 dX10_notes_32 rfl rfl ?_
    refine sim_iaload (k := 99) (hL 99 rfl) rfl rfl dX10_notes_33 rfl ?_
    refine sim_iadd dX10_notes_34 rfl ?_
    refine sim_lt (fun x2 => ?_)
    refine sim_istore_n [(2, .int x2), (0, .ref (Ea E 50)), (1, .int v1)] dX10_notes_35 (Nat.le_of_ble_eq_true rfl) rfl rfl ?_
    refine sim_aload_n 1 dX10_notes_36 rfl rfl ?_
    refine sim_get (k := 50) (ci := 8) (j := 42) (v := .ref (Ea E 93)) (hL 50 rfl) rfl (by decide) fl_X10_108 rfl dX10_notes_37 rfl ?_
    refine sim_aload_n 1 dX10_notes_40 rfl rfl ?_
    refine sim_get (k := 50) (ci := 8) (j := 41) (v := .int (w1.1 50 41)) (hL 50 rfl) rfl (by decide) fl_X10_289 rfl dX10_notes_41 rfl ?_
    refine sim_iload_n 2 dX10_notes_44 rfl rfl ?_
    refine sim_if_ne 52 dX10_notes_45 rfl rfl (fun _ => ?_) (fun _ => ?_)
    · refine sim_aload_n 1 dX10_notes_52 rfl rfl ?_
      refine sim_get (k := 50) (ci := 8) (j := 49) (v := .ref (Ea E 100)) (hL 50 rfl) rfl (by decide) fl_X10_129 rfl dX10_notes_53 rfl ?_
      refine sim_iload_n 2 dX10_notes_56 rfl rfl ?_
      refine sim_iconst (1 : Int32) dX10_notes_57 rfl rfl ?_
      refine sim_isub dX10_notes_58 rfl ?_
      refine sim_iaload (k := 100) (hL 100 rfl) rfl rfl dX10_notes_59 rfl ?_
      exact sim_sub [1, 2, 0] rfl (sf_X10_notes_60 hL v1 x2 (w1.1 50 41) (w1.1 100 (Int32.toNatClampNeg (v1 - (1 : Int32)))) w1)
    · refine sim_iconst (-1 : Int32) dX10_notes_48 rfl rfl ?_
      refine sim_goto (q := 60) dX10_notes_49 rfl ?_
      exact sim_sub [1, 2, 0] rfl (sf_X10_notes_60 hL v1 x2 (w1.1 50 41) (-1 : Int32) w1)
  · refine sim_iconst (0 : Int32) dX10_notes_11 rfl rfl ?_
    exact sim_zret rfl dX10_notes_12
def b_X10_nextCheck_0 (R : Int32 → Wd → Option (Int32 × Wd)) (K44 : Wd → Option (Int32 × Wd)) (K59 : Wd → Option (Int32 × Wd)) (v1 : Int32) (w : Wd) : Option (Int32 × Wd) :=
  if inb v1 16 = true then
  if inb v1 16 = true then
  if (w.1 63 (Int32.toNatClampNeg v1)) ≤ (w.1 99 (Int32.toNatClampNeg v1)) then
  K59 w
  else
  if inb v1 16 = true then
  bd (f_X10_makeMove v1 (w.1 99 (Int32.toNatClampNeg v1)) w) fun _ w1 =>
  if inb (v1 + (1 : Int32)) 16 = true then
  bd (f_X10_inCheck (v1 + (1 : Int32)) (w1.1 62 (Int32.toNatClampNeg (v1 + (1 : Int32)))) w1) fun x2 w3 =>
  if x2 = (0 : Int32) then
  if inb v1 16 = true then
  if inb v1 16 = true then
  lw (wdI w3 99 (Int32.toNatClampNeg v1) ((w3.1 99 (Int32.toNatClampNeg v1)) + (1 : Int32))) fun w4 =>
  R v1 w4
  else none
  else none
  else
  K44 w3
  else none
  else none
  else none
  else none
set_option maxRecDepth 20000 in
theorem sb_X10_nextCheck_0 {E : Ev} (hL : LM E) {R : Int32 → Wd → Option (Int32 × Wd)} (hR : ∀ (v1 : Int32) (w : Wd), Sim E m_X10_nextCheck rI 0 [(0, .ref (Ea E 50)), (1, .int v1)] [] w (R v1 w)) {K44 : Wd → Option (Int32 × Wd)} (hK44 : ∀ (w : Wd), Sim E m_X10_nextCheck rI 44 [] [] w (K44  w)) {K59 : Wd → Option (Int32 × Wd)} (hK59 : ∀ (w : Wd), Sim E m_X10_nextCheck rI 59 [] [] w (K59  w)) (v1 : Int32) (w : Wd) : Sim E m_X10_nextCheck rI 0 [(0, .ref (Ea E 50)), (1, .int v1)] [] w (b_X10_nextCheck_0 R K44 K59 v1 w) := by
  unfold b_X10_nextCheck_0
  refine sim_aload_n 0 dX10_nextCheck_0 rfl rfl ?_
  refine sim_get (k := 50) (ci := 8) (j := 48) (v := .ref (Ea E 99)) (hL 50 rfl) rfl (by decide) fl_X10_126 rfl dX10_nextCheck_1 rfl ?_
  refine sim_iload_n 1 dX10_nextCheck_4 rfl rfl ?_
  refine sim_iaload (k := 99) (hL 99 rfl) rfl rfl dX10_nextCheck_5 rfl ?_
  refine sim_aload_n 0 dX10_nextCheck_6 rfl rfl ?_
  refine sim_get (k := 50) (ci := 8) (j := 12) (v := .ref (Ea E 63)) (hL 50 rfl) rfl (by decide) fl_X10_40 rfl dX10_nextCheck_7 rfl ?_
  refine sim_iload_n 1 dX10_nextCheck_10 rfl rfl ?_
  refine sim_iaload (k := 63) (hL 63 rfl) rfl rfl dX10_nextCheck_11 rfl ?_
  refine sim_icmp_ge 59 dX10_nextCheck_12 rfl rfl (fun _ => ?_) (fun _ => ?_)
  · exact sim_sub [] rfl (hK59 w)
  · refine sim_aload_n 0 dX10_nextCheck_15 rfl rfl ?_
    refine sim_iload_n 1 dX10_nextCheck_16 rfl rfl ?_
    refine sim_aload_n 0 dX10_nextCheck_17 rfl rfl ?_
    refine sim_get (k := 50) (ci := 8) (j := 48) (v := .ref (Ea E 99)) (hL 50 rfl) rfl (by decide) fl_X10_126 rfl dX10_nextCheck_18 rfl ?_
    refine sim_iload_n 1 dX10_nextCheck_21 rfl rfl ?_
    refine sim_iaload (k := 99) (hL 99 rfl) rfl rfl dX10_nextCheck_22 rfl ?_
    refine sim_cVv (k := 50) (ci := 8) [.int v1, .int (w.1 99 (Int32.toNatClampNeg v1))] [] (c_X10_makeMove hL v1 (w.1 99 (Int32.toNatClampNeg v1)) w) (hL 50 rfl) rfl (by decide) rfl cb_X10_297 im_X10_makeMove se_X10_makeMove rfl rfl rfl (Nat.le_of_ble_eq_true rfl) dX10_nextCheck_23 rfl (fun _ w1 => ?_)
    refine sim_aload_n 0 dX10_nextCheck_26 rfl rfl ?_
    refine sim_iload_n 1 dX10_nextCheck_27 rfl rfl ?_
    refine sim_iconst (1 : Int32) dX10_nextCheck_28 rfl rfl ?_
    refine sim_iadd dX10_nextCheck_29 rfl ?_
    refine sim_aload_n 0 dX10_nextCheck_30 rfl rfl ?_
    refine sim_get (k := 50) (ci := 8) (j := 11) (v := .ref (Ea E 62)) (hL 50 rfl) rfl (by decide) fl_X10_37 rfl dX10_nextCheck_31 rfl ?_
    refine sim_iload_n 1 dX10_nextCheck_34 rfl rfl ?_
    refine sim_iconst (1 : Int32) dX10_nextCheck_35 rfl rfl ?_
    refine sim_iadd dX10_nextCheck_36 rfl ?_
    refine sim_iaload (k := 62) (hL 62 rfl) rfl rfl dX10_nextCheck_37 rfl ?_
    refine sim_cVi (k := 50) (ci := 8) [.int (v1 + (1 : Int32)), .int (w1.1 62 (Int32.toNatClampNeg (v1 + (1 : Int32))))] [] (c_X10_inCheck hL (v1 + (1 : Int32)) (w1.1 62 (Int32.toNatClampNeg (v1 + (1 : Int32)))) w1) (hL 50 rfl) rfl (by decide) rfl cb_X10_241 im_X10_inCheck se_X10_inCheck rfl rfl rfl (Nat.le_of_ble_eq_true rfl) dX10_nextCheck_38 rfl (fun x2 w3 => ?_)
    refine sim_if_eq 46 dX10_nextCheck_41 rfl rfl (fun _ => ?_) (fun _ => ?_)
    · refine sim_aload_n 0 dX10_nextCheck_46 rfl rfl ?_
      refine sim_get (k := 50) (ci := 8) (j := 48) (v := .ref (Ea E 99)) (hL 50 rfl) rfl (by decide) fl_X10_126 rfl dX10_nextCheck_47 rfl ?_
      refine sim_iload_n 1 dX10_nextCheck_50 rfl rfl ?_
      refine sim_dup2 dX10_nextCheck_51 rfl rfl rfl ?_
      refine sim_iaload (k := 99) (hL 99 rfl) rfl rfl dX10_nextCheck_52 rfl ?_
      refine sim_iconst (1 : Int32) dX10_nextCheck_53 rfl rfl ?_
      refine sim_iadd dX10_nextCheck_54 rfl ?_
      refine sim_iastore (k := 99) (hL 99 rfl) rfl rfl dX10_nextCheck_55 rfl ?_
      refine sim_lw (fun w4 => ?_)
      refine sim_goto (q := 0) dX10_nextCheck_56 rfl ?_
      exact sim_sub [0, 1] rfl (hR v1 w4)
    · exact sim_sub [] rfl (hK44 w3)
def l_X10_nextCheck_0 (K44 : Wd → Option (Int32 × Wd)) (K59 : Wd → Option (Int32 × Wd)) (n : Nat) : Int32 → Wd → Option (Int32 × Wd) := itr (fun _ _ => none) (fun R => b_X10_nextCheck_0 R K44 K59) n
set_option maxRecDepth 20000 in
theorem sl_X10_nextCheck_0 {E : Ev} (hL : LM E) {K44 : Wd → Option (Int32 × Wd)} (hK44 : ∀ (w : Wd), Sim E m_X10_nextCheck rI 44 [] [] w (K44  w)) {K59 : Wd → Option (Int32 × Wd)} (hK59 : ∀ (w : Wd), Sim E m_X10_nextCheck rI 59 [] [] w (K59  w)) : ∀ (n : Nat) (v1 : Int32) (w : Wd), Sim E m_X10_nextCheck rI 0 [(0, .ref (Ea E 50)), (1, .int v1)] [] w (l_X10_nextCheck_0 K44 K59 n v1 w) := by
  intro n
  induction n with
  | zero => intros; exact sim_none
  | succ n ih => intros; exact sb_X10_nextCheck_0 hL (R := l_X10_nextCheck_0 K44 K59 n) ih hK44 hK59 _ _
def f_X10_nextCheck_44 (w : Wd) : Option (Int32 × Wd) :=
  if zb (1 : Int32) = true then some ((1 : Int32), w) else none
set_option maxRecDepth 20000 in
theorem sf_X10_nextCheck_44 {E : Ev} (hL : LM E) (w : Wd) : Sim E m_X10_nextCheck rI 44 [] [] w (f_X10_nextCheck_44 w) := by
  unfold f_X10_nextCheck_44
  refine sim_iconst (1 : Int32) dX10_nextCheck_44 rfl rfl ?_
  exact sim_zret rfl dX10_nextCheck_45
def f_X10_nextCheck_59 (w : Wd) : Option (Int32 × Wd) :=
  if zb (0 : Int32) = true then some ((0 : Int32), w) else none
set_option maxRecDepth 20000 in
theorem sf_X10_nextCheck_59 {E : Ev} (hL : LM E) (w : Wd) : Sim E m_X10_nextCheck rI 59 [] [] w (f_X10_nextCheck_59 w) := by
  unfold f_X10_nextCheck_59
  refine sim_iconst (0 : Int32) dX10_nextCheck_59 rfl rfl ?_
  exact sim_zret rfl dX10_nextCheck_60
def f_X10_nextCheck (v1 : Int32) (w : Wd) : Option (Int32 × Wd) :=
  l_X10_nextCheck_0 f_X10_nextCheck_44 f_X10_nextCheck_59 FU v1 w
set_option maxRecDepth 20000 in
theorem c_X10_nextCheck {E : Ev} (hL : LM E) (v1 : Int32) (w : Wd) : Ct E m_X10_nextCheck yX10_nextCheck rI [.ref (Ea E 50), .int v1] w (f_X10_nextCheck v1 w) := by
  refine Ct.of (by decide) ⟨rfl, rfl⟩ (Nat.le_of_ble_eq_true rfl) ?_
  show Sim E m_X10_nextCheck rI 0 [(0, .ref (Ea E 50)), (1, .int v1)] [] w (f_X10_nextCheck v1 w)
  unfold f_X10_nextCheck
  exact sim_sub [0, 1] rfl (sl_X10_nextCheck_0 hL (sf_X10_nextCheck_44 hL) (sf_X10_nextCheck_59 hL) FU v1 w)
def b_X10_hunts_19 (R : Int32 → Int32 → Wd → Option (Int32 × Wd)) (K41 : Wd → Option (Int32 × Wd)) (K79 : Wd → Option (Int32 × Wd)) (K101 : Wd → Option (Int32 × Wd)) (K149 : Wd → Option (Int32 × Wd)) (K186 : Wd → Option (Int32 × Wd)) (v1 : Int32) (v2 : Int32) (w : Wd) : Option (Int32 × Wd) :=
  if ¬ (2 : Int32) = (0 : Int32) then
  if (v2 - v2 / (2 : Int32) * (2 : Int32)) = (0 : Int32) then
  bd (f_X10_nextCheck v2 w) fun x12 w13 =>
  if x12 = (0 : Int32) then
  if v2 = (0 : Int32) then
  K101 w13
  else
  if inb (v2 + (-2 : Int32)) 16 = true then
  lw (wdI w13 50 41 (w13.1 100 (Int32.toNatClampNeg (v2 + (-2 : Int32))))) fun w14 =>
  if inb (v2 + (-2 : Int32)) 16 = true then
  if inb (v2 + (-2 : Int32)) 16 = true then
  lw (wdI w14 99 (Int32.toNatClampNeg (v2 + (-2 : Int32))) ((w14.1 99 (Int32.toNatClampNeg (v2 + (-2 : Int32)))) + (1 : Int32))) fun w15 =>
  R v1 (v2 + (-2 : Int32)) w15
  else none
  else none
  else none
  else
  bd (f_X10_notes v2 w13) fun x16 w17 =>
  if x16 = (0 : Int32) then
  K41 w17
  else
  bd (f_X10_findMoves (v2 + (1 : Int32)) w17) fun _ w18 =>
  if inb (v2 + (1 : Int32)) 16 = true then
  if (w18.1 63 (Int32.toNatClampNeg (v2 + (1 : Int32)))) ≤ (0 : Int32) then
  if v2 = (0 : Int32) then
  K79 w18
  else
  if inb (v2 + (-1 : Int32)) 16 = true then
  if inb (v2 + (-1 : Int32)) 16 = true then
  lw (wdI w18 99 (Int32.toNatClampNeg (v2 + (-1 : Int32))) ((w18.1 99 (Int32.toNatClampNeg (v2 + (-1 : Int32)))) + (1 : Int32))) fun w19 =>
  R v1 (v2 + (-1 : Int32)) w19
  else none
  else none
  else
  if inb (v2 + (1 : Int32)) 16 = true then
  lw (wdI w18 99 (Int32.toNatClampNeg (v2 + (1 : Int32))) (0 : Int32)) fun w20 =>
  R v1 (v2 + (1 : Int32)) w20
  else none
  else none
  else
  if inb v2 16 = true then
  if inb v2 16 = true then
  if (w.1 99 (Int32.toNatClampNeg v2)) = (w.1 63 (Int32.toNatClampNeg v2)) then
  if v2 = (1 : Int32) then
  K149 w
  else
  if inb (v2 + (-2 : Int32)) 16 = true then
  if inb (v2 + (-2 : Int32)) 16 = true then
  lw (wdI w 99 (Int32.toNatClampNeg (v2 + (-2 : Int32))) ((w.1 99 (Int32.toNatClampNeg (v2 + (-2 : Int32)))) + (1 : Int32))) fun w11 =>
  R v1 (v2 + (-2 : Int32)) w11
  else none
  else none
  else
  if inb v2 16 = true then
  bd (f_X10_makeMove v2 (w.1 99 (Int32.toNatClampNeg v2)) w) fun _ w4 =>
  bd (f_X10_notes v2 w4) fun x5 w6 =>
  if x5 = (0 : Int32) then
  K186 w6
  else
  if ¬ (2 : Int32) = (0 : Int32) then
  if ((v2 / (2 : Int32)) + (1 : Int32)) = v1 then
  if inb (v2 + (-1 : Int32)) 16 = true then
  lw (wdI w6 50 41 (w6.1 100 (Int32.toNatClampNeg (v2 + (-1 : Int32))))) fun w9 =>
  if inb (v2 + (-1 : Int32)) 16 = true then
  if inb (v2 + (-1 : Int32)) 16 = true then
  lw (wdI w9 99 (Int32.toNatClampNeg (v2 + (-1 : Int32))) ((w9.1 99 (Int32.toNatClampNeg (v2 + (-1 : Int32)))) + (1 : Int32))) fun w10 =>
  R v1 (v2 + (-1 : Int32)) w10
  else none
  else none
  else none
  else
  bd (f_X10_findMoves (v2 + (1 : Int32)) w6) fun _ w7 =>
  if inb (v2 + (1 : Int32)) 16 = true then
  lw (wdI w7 99 (Int32.toNatClampNeg (v2 + (1 : Int32))) (0 : Int32)) fun w8 =>
  R v1 (v2 + (1 : Int32)) w8
  else none
  else none
  else none
  else none
  else none
  else none
set_option maxRecDepth 20000 in
theorem sb_X10_hunts_19 {E : Ev} (hL : LM E) {R : Int32 → Int32 → Wd → Option (Int32 × Wd)} (hR : ∀ (v1 : Int32) (v2 : Int32) (w : Wd), Sim E m_X10_hunts rI 19 [(0, .ref (Ea E 50)), (1, .int v1), (2, .int v2)] [] w (R v1 v2 w)) {K41 : Wd → Option (Int32 × Wd)} (hK41 : ∀ (w : Wd), Sim E m_X10_hunts rI 41 [] [] w (K41  w)) {K79 : Wd → Option (Int32 × Wd)} (hK79 : ∀ (w : Wd), Sim E m_X10_hunts rI 79 [] [] w (K79  w)) {K101 : Wd → Option (Int32 × Wd)} (hK101 : ∀ (w : Wd), Sim E m_X10_hunts rI 101 [] [] w (K101  w)) {K149 : Wd → Option (Int32 × Wd)} (hK149 : ∀ (w : Wd), Sim E m_X10_hunts rI 149 [] [] w (K149  w)) {K186 : Wd → Option (Int32 × Wd)} (hK186 : ∀ (w : Wd), Sim E m_X10_hunts rI 186 [] [] w (K186  w)) (v1 : Int32) (v2 : Int32) (w : Wd) : Sim E m_X10_hunts rI 19 [(0, .ref (Ea E 50)), (1, .int v1), (2, .int v2)] [] w (b_X10_hunts_19 R K41 K79 K101 K149 K186 v1 v2 w) := by
  unfold b_X10_hunts_19
  refine sim_iload_n 2 dX10_hunts_19 rfl rfl ?_
  refine sim_iconst (2 : Int32) dX10_hunts_20 rfl rfl ?_
  refine sim_irem dX10_hunts_21 rfl ?_
  refine sim_if_ne 129 dX10_hunts_22 rfl rfl (fun _ => ?_) (fun _ => ?_)
  · refine sim_aload_n 0 dX10_hunts_129 rfl rfl ?_
    refine sim_get (k := 50) (ci := 8) (j := 48) (v := .ref (Ea E 99)) (hL 50 rfl) rfl (by decide) fl_X10_126 rfl dX10_hunts_130 rfl ?_
    refine sim_iload_n 2 dX10_hunts_133 rfl rfl ?_
    refine sim_iaload (k := 99) (hL 99 rfl) rfl rfl dX10_hunts_134 rfl ?_
    refine sim_aload_n 0 dX10_hunts_135 rfl rfl ?_
    refine sim_get (k := 50) (ci := 8) (j := 12) (v := .ref (Ea E 63)) (hL 50 rfl) rfl (by decide) fl_X10_40 rfl dX10_hunts_136 rfl ?_
    refine sim_iload_n 2 dX10_hunts_139 rfl rfl ?_
    refine sim_iaload (k := 63) (hL 63 rfl) rfl rfl dX10_hunts_140 rfl ?_
    refine sim_icmp_ne 167 dX10_hunts_141 rfl rfl (fun _ => ?_) (fun _ => ?_)
    · refine sim_aload_n 0 dX10_hunts_167 rfl rfl ?_
      refine sim_iload_n 2 dX10_hunts_168 rfl rfl ?_
      refine sim_aload_n 0 dX10_hunts_169 rfl rfl ?_
      refine sim_get (k := 50) (ci := 8) (j := 48) (v := .ref (Ea E 99)) (hL 50 rfl) rfl (by decide) fl_X10_126 rfl dX10_hunts_170 rfl ?_
      refine sim_iload_n 2 dX10_hunts_173 rfl rfl ?_
      refine sim_iaload (k := 99) (hL 99 rfl) rfl rfl dX10_hunts_174 rfl ?_
      refine sim_cVv (k := 50) (ci := 8) [.int v2, .int (w.1 99 (Int32.toNatClampNeg v2))] [] (c_X10_makeMove hL v2 (w.1 99 (Int32.toNatClampNeg v2)) w) (hL 50 rfl) rfl (by decide) rfl cb_X10_297 im_X10_makeMove se_X10_makeMove rfl rfl rfl (Nat.le_of_ble_eq_true rfl) dX10_hunts_175 rfl (fun _ w4 => ?_)
      refine sim_aload_n 0 dX10_hunts_178 rfl rfl ?_
      refine sim_iload_n 2 dX10_hunts_179 rfl rfl ?_
      refine sim_cVi (k := 50) (ci := 8) [.int v2] [] (c_X10_notes hL v2 w4) (hL 50 rfl) rfl (by decide) rfl cb_X10_314 im_X10_notes se_X10_notes rfl rfl rfl (Nat.le_of_ble_eq_true rfl) dX10_hunts_180 rfl (fun x5 w6 => ?_)
      refine sim_if_ne 189 dX10_hunts_183 rfl rfl (fun _ => ?_) (fun _ => ?_)
      · refine sim_iload_n 2 dX10_hunts_189 rfl rfl ?_
        refine sim_iconst (2 : Int32) dX10_hunts_190 rfl rfl ?_
        refine sim_idiv dX10_hunts_191 rfl ?_
        refine sim_iconst (1 : Int32) dX10_hunts_192 rfl rfl ?_
        refine sim_iadd dX10_hunts_193 rfl ?_
        refine sim_iload_n 1 dX10_hunts_194 rfl rfl ?_
        refine sim_icmp_ne 224 dX10_hunts_195 rfl rfl (fun _ => ?_) (fun _ => ?_)
        · refine sim_aload_n 0 dX10_hunts_224 rfl rfl ?_
          refine sim_iload_n 2 dX10_hunts_225 rfl rfl ?_
          refine sim_iconst (1 : Int32) dX10_hunts_226 rfl rfl ?_
          refine sim_iadd dX10_hunts_227 rfl ?_
          refine sim_cVv (k := 50) (ci := 8) [.int (v2 + (1 : Int32))] [] (c_X10_findMoves hL (v2 + (1 : Int32)) w6) (hL 50 rfl) rfl (by decide) rfl cb_X10_255 im_X10_findMoves se_X10_findMoves rfl rfl rfl (Nat.le_of_ble_eq_true rfl) dX10_hunts_228 rfl (fun _ w7 => ?_)
          refine sim_iinc (v2 + (1 : Int32)) 2 [(2, .int (v2 + (1 : Int32))), (0, .ref (Ea E 50)), (1, .int v1)] dX10_hunts_231 rfl rfl (Nat.le_of_ble_eq_true rfl) rfl rfl ?_
          refine sim_aload_n 1 dX10_hunts_234 rfl rfl ?_
          refine sim_get (k := 50) (ci := 8) (j := 48) (v := .ref (Ea E 99)) (hL 50 rfl) rfl (by decide) fl_X10_126 rfl dX10_hunts_235 rfl ?_
          refine sim_iload_n 0 dX10_hunts_238 rfl rfl ?_
          refine sim_iconst (0 : Int32) dX10_hunts_239 rfl rfl ?_
          refine sim_iastore (k := 99) (hL 99 rfl) rfl rfl dX10_hunts_240 rfl ?_
          refine sim_lw (fun w8 => ?_)
          refine sim_goto (q := 19) dX10_hunts_241 rfl ?_
          exact sim_sub [1, 2, 0] rfl (hR v1 (v2 + (1 : Int32)) w8)
        · refine sim_iinc (v2 + (-1 : Int32)) 2 [(2, .int (v2 + (-1 : Int32))), (0, .ref (Ea E 50)), (1, .int v1)] dX10_hunts_198 rfl rfl (Nat.le_of_ble_eq_true rfl) rfl rfl ?_
          refine sim_aload_n 1 dX10_hunts_201 rfl rfl ?_
          refine sim_aload_n 1 dX10_hunts_202 rfl rfl ?_
          refine sim_get (k := 50) (ci := 8) (j := 49) (v := .ref (Ea E 100)) (hL 50 rfl) rfl (by decide) fl_X10_129 rfl dX10_hunts_203 rfl ?_
          refine sim_iload_n 0 dX10_hunts_206 rfl rfl ?_
          refine sim_iaload (k := 100) (hL 100 rfl) rfl rfl dX10_hunts_207 rfl ?_
          refine sim_put (k := 50) (ci := 8) (j := 41) (hL 50 rfl) rfl (by decide) fp_X10_289 rfl rfl (st_50_41 _ _ _) (Nat.le_of_ble_eq_true rfl) dX10_hunts_208 rfl ?_
          refine sim_lw (fun w9 => ?_)
          refine sim_aload_n 1 dX10_hunts_211 rfl rfl ?_
          refine sim_get (k := 50) (ci := 8) (j := 48) (v := .ref (Ea E 99)) (hL 50 rfl) rfl (by decide) fl_X10_126 rfl dX10_hunts_212 rfl ?_
          refine sim_iload_n 0 dX10_hunts_215 rfl rfl ?_
          refine sim_dup2 dX10_hunts_216 rfl rfl rfl ?_
          refine sim_iaload (k := 99) (hL 99 rfl) rfl rfl dX10_hunts_217 rfl ?_
          refine sim_iconst (1 : Int32) dX10_hunts_218 rfl rfl ?_
          refine sim_iadd dX10_hunts_219 rfl ?_
          refine sim_iastore (k := 99) (hL 99 rfl) rfl rfl dX10_hunts_220 rfl ?_
          refine sim_lw (fun w10 => ?_)
          refine sim_goto (q := 19) dX10_hunts_221 rfl ?_
          exact sim_sub [1, 2, 0] rfl (hR v1 (v2 + (-1 : Int32)) w10)
      · exact sim_sub [] rfl (hK186 w6)
    · refine sim_iload_n 2 dX10_hunts_144 rfl rfl ?_
      refine sim_iconst (1 : Int32) dX10_hunts_145 rfl rfl ?_
      refine sim_icmp_ne 151 dX10_hunts_146 rfl rfl (fun _ => ?_) (fun _ => ?_)
      · refine sim_iinc (v2 + (-2 : Int32)) 2 [(2, .int (v2 + (-2 : Int32))), (0, .ref (Ea E 50)), (1, .int v1)] dX10_hunts_151 rfl rfl (Nat.le_of_ble_eq_true rfl) rfl rfl ?_
        refine sim_aload_n 1 dX10_hunts_154 rfl rfl ?_
        refine sim_get (k := 50) (ci := 8) (j := 48) (v := .ref (Ea E 99)) (hL 50 rfl) rfl (by decide) fl_X10_126 rfl dX10_hunts_155 rfl ?_
        refine sim_iload_n 0 dX10_hunts_158 rfl rfl ?_
        refine sim_dup2 dX10_hunts_159 rfl rfl rfl ?_
        refine sim_iaload (k := 99) (hL 99 rfl) rfl rfl dX10_hunts_160 rfl ?_
        refine sim_iconst (1 : Int32) dX10_hunts_161 rfl rfl ?_
        refine sim_iadd dX10_hunts_162 rfl ?_
        refine sim_iastore (k := 99) (hL 99 rfl) rfl rfl dX10_hunts_163 rfl ?_
        refine sim_lw (fun w11 => ?_)
        refine sim_goto (q := 19) dX10_hunts_164 rfl ?_
        exact sim_sub [1, 2, 0] rfl (hR v1 (v2 + (-2 : Int32)) w11)
      · exact sim_sub [] rfl (hK149 w)
  · refine sim_aload_n 0 dX10_hunts_25 rfl rfl ?_
    refine sim_iload_n 2 dX10_hunts_26 rfl rfl ?_
    refine sim_cVi (k := 50) (ci := 8) [.int v2] [] (c_X10_nextCheck hL v2 w) (hL 50 rfl) rfl (by decide) rfl cb_X10_311 im_X10_nextCheck se_X10_nextCheck rfl rfl rfl (Nat.le_of_ble_eq_true rfl) dX10_hunts_27 rfl (fun x12 w13 => ?_)
    refine sim_if_eq 97 dX10_hunts_30 rfl rfl (fun _ => ?_) (fun _ => ?_)
    · refine sim_iload_n 2 dX10_hunts_97 rfl rfl ?_
      refine sim_if_ne 103 dX10_hunts_98 rfl rfl (fun _ => ?_) (fun _ => ?_)
      · refine sim_iinc (v2 + (-2 : Int32)) 2 [(2, .int (v2 + (-2 : Int32))), (0, .ref (Ea E 50)), (1, .int v1)] dX10_hunts_103 rfl rfl (Nat.le_of_ble_eq_true rfl) rfl rfl ?_
        refine sim_aload_n 1 dX10_hunts_106 rfl rfl ?_
        refine sim_aload_n 1 dX10_hunts_107 rfl rfl ?_
        refine sim_get (k := 50) (ci := 8) (j := 49) (v := .ref (Ea E 100)) (hL 50 rfl) rfl (by decide) fl_X10_129 rfl dX10_hunts_108 rfl ?_
        refine sim_iload_n 0 dX10_hunts_111 rfl rfl ?_
        refine sim_iaload (k := 100) (hL 100 rfl) rfl rfl dX10_hunts_112 rfl ?_
        refine sim_put (k := 50) (ci := 8) (j := 41) (hL 50 rfl) rfl (by decide) fp_X10_289 rfl rfl (st_50_41 _ _ _) (Nat.le_of_ble_eq_true rfl) dX10_hunts_113 rfl ?_
        refine sim_lw (fun w14 => ?_)
        refine sim_aload_n 1 dX10_hunts_116 rfl rfl ?_
        refine sim_get (k := 50) (ci := 8) (j := 48) (v := .ref (Ea E 99)) (hL 50 rfl) rfl (by decide) fl_X10_126 rfl dX10_hunts_117 rfl ?_
        refine sim_iload_n 0 dX10_hunts_120 rfl rfl ?_
        refine sim_dup2 dX10_hunts_121 rfl rfl rfl ?_
        refine sim_iaload (k := 99) (hL 99 rfl) rfl rfl dX10_hunts_122 rfl ?_
        refine sim_iconst (1 : Int32) dX10_hunts_123 rfl rfl ?_
        refine sim_iadd dX10_hunts_124 rfl ?_
        refine sim_iastore (k := 99) (hL 99 rfl) rfl rfl dX10_hunts_125 rfl ?_
        refine sim_lw (fun w15 => ?_)
        refine sim_goto (q := 19) dX10_hunts_126 rfl ?_
        exact sim_sub [1, 2, 0] rfl (hR v1 (v2 + (-2 : Int32)) w15)
      · exact sim_sub [] rfl (hK101 w13)
    · refine sim_aload_n 0 dX10_hunts_33 rfl rfl ?_
      refine sim_iload_n 2 dX10_hunts_34 rfl rfl ?_
      refine sim_cVi (k := 50) (ci := 8) [.int v2] [] (c_X10_notes hL v2 w13) (hL 50 rfl) rfl (by decide) rfl cb_X10_314 im_X10_notes se_X10_notes rfl rfl rfl (Nat.le_of_ble_eq_true rfl) dX10_hunts_35 rfl (fun x16 w17 => ?_)
      refine sim_if_ne 44 dX10_hunts_38 rfl rfl (fun _ => ?_) (fun _ => ?_)
      · refine sim_aload_n 0 dX10_hunts_44 rfl rfl ?_
        refine sim_iload_n 2 dX10_hunts_45 rfl rfl ?_
        refine sim_iconst (1 : Int32) dX10_hunts_46 rfl rfl ?_
        refine sim_iadd dX10_hunts_47 rfl ?_
        refine sim_cVv (k := 50) (ci := 8) [.int (v2 + (1 : Int32))] [] (c_X10_findMoves hL (v2 + (1 : Int32)) w17) (hL 50 rfl) rfl (by decide) rfl cb_X10_255 im_X10_findMoves se_X10_findMoves rfl rfl rfl (Nat.le_of_ble_eq_true rfl) dX10_hunts_48 rfl (fun _ w18 => ?_)
        refine sim_aload_n 0 dX10_hunts_51 rfl rfl ?_
        refine sim_get (k := 50) (ci := 8) (j := 12) (v := .ref (Ea E 63)) (hL 50 rfl) rfl (by decide) fl_X10_40 rfl dX10_hunts_52 rfl ?_
        refine sim_iload_n 2 dX10_hunts_55 rfl rfl ?_
        refine sim_iconst (1 : Int32) dX10_hunts_56 rfl rfl ?_
        refine sim_iadd dX10_hunts_57 rfl ?_
        refine sim_iaload (k := 63) (hL 63 rfl) rfl rfl dX10_hunts_58 rfl ?_
        refine sim_if_le 75 dX10_hunts_59 rfl rfl (fun _ => ?_) (fun _ => ?_)
        · refine sim_iload_n 2 dX10_hunts_75 rfl rfl ?_
          refine sim_if_ne 81 dX10_hunts_76 rfl rfl (fun _ => ?_) (fun _ => ?_)
          · refine sim_iinc (v2 + (-1 : Int32)) 2 [(2, .int (v2 + (-1 : Int32))), (0, .ref (Ea E 50)), (1, .int v1)] dX10_hunts_81 rfl rfl (Nat.le_of_ble_eq_true rfl) rfl rfl ?_
            refine sim_aload_n 1 dX10_hunts_84 rfl rfl ?_
            refine sim_get (k := 50) (ci := 8) (j := 48) (v := .ref (Ea E 99)) (hL 50 rfl) rfl (by decide) fl_X10_126 rfl dX10_hunts_85 rfl ?_
            refine sim_iload_n 0 dX10_hunts_88 rfl rfl ?_
            refine sim_dup2 dX10_hunts_89 rfl rfl rfl ?_
            refine sim_iaload (k := 99) (hL 99 rfl) rfl rfl dX10_hunts_90 rfl ?_
            refine sim_iconst (1 : Int32) dX10_hunts_91 rfl rfl ?_
            refine sim_iadd dX10_hunts_92 rfl ?_
            refine sim_iastore (k := 99) (hL 99 rfl) rfl rfl dX10_hunts_93 rfl ?_
            refine sim_lw (fun w19 => ?_)
            refine sim_goto (q := 19) dX10_hunts_94 rfl ?_
            exact sim_sub [1, 2, 0] rfl (hR v1 (v2 + (-1 : Int32)) w19)
          · exact sim_sub [] rfl (hK79 w18)
        · refine sim_iinc (v2 + (1 : Int32)) 2 [(2, .int (v2 + (1 : Int32))), (0, .ref (Ea E 50)), (1, .int v1)] dX10_hunts_62 rfl rfl (Nat.le_of_ble_eq_true rfl) rfl rfl ?_
          refine sim_aload_n 1 dX10_hunts_65 rfl rfl ?_
          refine sim_get (k := 50) (ci := 8) (j := 48) (v := .ref (Ea E 99)) (hL 50 rfl) rfl (by decide) fl_X10_126 rfl dX10_hunts_66 rfl ?_
          refine sim_iload_n 0 dX10_hunts_69 rfl rfl ?_
          refine sim_iconst (0 : Int32) dX10_hunts_70 rfl rfl ?_
          refine sim_iastore (k := 99) (hL 99 rfl) rfl rfl dX10_hunts_71 rfl ?_
          refine sim_lw (fun w20 => ?_)
          refine sim_goto (q := 19) dX10_hunts_72 rfl ?_
          exact sim_sub [1, 2, 0] rfl (hR v1 (v2 + (1 : Int32)) w20)
      · exact sim_sub [] rfl (hK41 w17)
def l_X10_hunts_19 (K41 : Wd → Option (Int32 × Wd)) (K79 : Wd → Option (Int32 × Wd)) (K101 : Wd → Option (Int32 × Wd)) (K149 : Wd → Option (Int32 × Wd)) (K186 : Wd → Option (Int32 × Wd)) (n : Nat) : Int32 → Int32 → Wd → Option (Int32 × Wd) := itr (fun _ _ _ => none) (fun R => b_X10_hunts_19 R K41 K79 K101 K149 K186) n
set_option maxRecDepth 20000 in
theorem sl_X10_hunts_19 {E : Ev} (hL : LM E) {K41 : Wd → Option (Int32 × Wd)} (hK41 : ∀ (w : Wd), Sim E m_X10_hunts rI 41 [] [] w (K41  w)) {K79 : Wd → Option (Int32 × Wd)} (hK79 : ∀ (w : Wd), Sim E m_X10_hunts rI 79 [] [] w (K79  w)) {K101 : Wd → Option (Int32 × Wd)} (hK101 : ∀ (w : Wd), Sim E m_X10_hunts rI 101 [] [] w (K101  w)) {K149 : Wd → Option (Int32 × Wd)} (hK149 : ∀ (w : Wd), Sim E m_X10_hunts rI 149 [] [] w (K149  w)) {K186 : Wd → Option (Int32 × Wd)} (hK186 : ∀ (w : Wd), Sim E m_X10_hunts rI 186 [] [] w (K186  w)) : ∀ (n : Nat) (v1 : Int32) (v2 : Int32) (w : Wd), Sim E m_X10_hunts rI 19 [(0, .ref (Ea E 50)), (1, .int v1), (2, .int v2)] [] w (l_X10_hunts_19 K41 K79 K101 K149 K186 n v1 v2 w) := by
  intro n
  induction n with
  | zero => intros; exact sim_none
  | succ n ih => intros; exact sb_X10_hunts_19 hL (R := l_X10_hunts_19 K41 K79 K101 K149 K186 n) ih hK41 hK79 hK101 hK149 hK186 _ _ _
def f_X10_hunts_41 (w : Wd) : Option (Int32 × Wd) :=
  some ((-5 : Int32), w)
set_option maxRecDepth 20000 in
theorem sf_X10_hunts_41 {E : Ev} (hL : LM E) (w : Wd) : Sim E m_X10_hunts rI 41 [] [] w (f_X10_hunts_41 w) := by
  unfold f_X10_hunts_41
  refine sim_bipush (-5 : Int32) dX10_hunts_41 rfl rfl ?_
  exact sim_iret rfl dX10_hunts_43
def f_X10_hunts_79 (w : Wd) : Option (Int32 × Wd) :=
  some ((1 : Int32), w)
set_option maxRecDepth 20000 in
theorem sf_X10_hunts_79 {E : Ev} (hL : LM E) (w : Wd) : Sim E m_X10_hunts rI 79 [] [] w (f_X10_hunts_79 w) := by
  unfold f_X10_hunts_79
  refine sim_iconst (1 : Int32) dX10_hunts_79 rfl rfl ?_
  exact sim_iret rfl dX10_hunts_80
def f_X10_hunts_101 (w : Wd) : Option (Int32 × Wd) :=
  some ((0 : Int32), w)
set_option maxRecDepth 20000 in
theorem sf_X10_hunts_101 {E : Ev} (hL : LM E) (w : Wd) : Sim E m_X10_hunts rI 101 [] [] w (f_X10_hunts_101 w) := by
  unfold f_X10_hunts_101
  refine sim_iconst (0 : Int32) dX10_hunts_101 rfl rfl ?_
  exact sim_iret rfl dX10_hunts_102
def f_X10_hunts_149 (w : Wd) : Option (Int32 × Wd) :=
  some ((1 : Int32), w)
set_option maxRecDepth 20000 in
theorem sf_X10_hunts_149 {E : Ev} (hL : LM E) (w : Wd) : Sim E m_X10_hunts rI 149 [] [] w (f_X10_hunts_149 w) := by
  unfold f_X10_hunts_149
  refine sim_iconst (1 : Int32) dX10_hunts_149 rfl rfl ?_
  exact sim_iret rfl dX10_hunts_150
def f_X10_hunts_186 (w : Wd) : Option (Int32 × Wd) :=
  some ((-5 : Int32), w)
set_option maxRecDepth 20000 in
theorem sf_X10_hunts_186 {E : Ev} (hL : LM E) (w : Wd) : Sim E m_X10_hunts rI 186 [] [] w (f_X10_hunts_186 w) := by
  unfold f_X10_hunts_186
  refine sim_bipush (-5 : Int32) dX10_hunts_186 rfl rfl ?_
  exact sim_iret rfl dX10_hunts_188
def f_X10_hunts (v1 : Int32) (w : Wd) : Option (Int32 × Wd) :=
  lw (wdI w 50 41 (0 : Int32)) fun w1 =>
  if inb (0 : Int32) 16 = true then
  lw (wdI w1 99 (Int32.toNatClampNeg (0 : Int32)) (0 : Int32)) fun w2 =>
  bd (f_X10_findMoves (0 : Int32) w2) fun _ w3 =>
  l_X10_hunts_19 f_X10_hunts_41 f_X10_hunts_79 f_X10_hunts_101 f_X10_hunts_149 f_X10_hunts_186 FU v1 (0 : Int32) w3
  else none
set_option maxRecDepth 20000 in
theorem c_X10_hunts {E : Ev} (hL : LM E) (v1 : Int32) (w : Wd) : Ct E m_X10_hunts yX10_hunts rI [.ref (Ea E 50), .int v1] w (f_X10_hunts v1 w) := by
  refine Ct.of (by decide) ⟨rfl, rfl⟩ (Nat.le_of_ble_eq_true rfl) ?_
  show Sim E m_X10_hunts rI 0 [(0, .ref (Ea E 50)), (1, .int v1)] [] w (f_X10_hunts v1 w)
  unfold f_X10_hunts
  refine sim_iconst (0 : Int32) dX10_hunts_0 rfl rfl ?_
  refine sim_istore_n [(2, .int (0 : Int32)), (0, .ref (Ea E 50)), (1, .int v1)] dX10_hunts_1 (Nat.le_of_ble_eq_true rfl) rfl rfl ?_
  refine sim_aload_n 1 dX10_hunts_2 rfl rfl ?_
  refine sim_iconst (0 : Int32) dX10_hunts_3 rfl rfl ?_
  refine sim_put (k := 50) (ci := 8) (j := 41) (hL 50 rfl) rfl (by decide) fp_X10_289 rfl rfl (st_50_41 _ _ _) (Nat.le_of_ble_eq_true rfl) dX10_hunts_4 rfl ?_
  refine sim_lw (fun w1 => ?_)
  refine sim_aload_n 1 dX10_hunts_7 rfl rfl ?_
  refine sim_get (k := 50) (ci := 8) (j := 48) (v := .ref (Ea E 99)) (hL 50 rfl) rfl (by decide) fl_X10_126 rfl dX10_hunts_8 rfl ?_
  refine sim_iconst (0 : Int32) dX10_hunts_11 rfl rfl ?_
  refine sim_iconst (0 : Int32) dX10_hunts_12 rfl rfl ?_
  refine sim_iastore (k := 99) (hL 99 rfl) rfl rfl dX10_hunts_13 rfl ?_
  refine sim_lw (fun w2 => ?_)
  refine sim_aload_n 1 dX10_hunts_14 rfl rfl ?_
  refine sim_iconst (0 : Int32) dX10_hunts_15 rfl rfl ?_
  refine sim_cVv (k := 50) (ci := 8) [.int (0 : Int32)] [] (c_X10_findMoves hL (0 : Int32) w2) (hL 50 rfl) rfl (by decide) rfl cb_X10_255 im_X10_findMoves se_X10_findMoves rfl rfl rfl (Nat.le_of_ble_eq_true rfl) dX10_hunts_16 rfl (fun _ w3 => ?_)
  exact sim_sub [1, 2, 0] rfl (sl_X10_hunts_19 hL (sf_X10_hunts_41 hL) (sf_X10_hunts_79 hL) (sf_X10_hunts_101 hL) (sf_X10_hunts_149 hL) (sf_X10_hunts_186 hL) FU v1 (0 : Int32) w3)
