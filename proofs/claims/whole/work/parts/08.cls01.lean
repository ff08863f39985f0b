def b_X6_attacked_98 (N : Nat) (R : Int32 → Int32 → Int32 → Int32 → Int32 → Int32 → Int32 → Int32 → Wd → Option (Int32 × Wd)) (K134 : Int32 → Int32 → Int32 → Int32 → Int32 → Wd → Option (Int32 × Wd)) (K152 : Int32 → Int32 → Int32 → Int32 → Int32 → Wd → Option (Int32 × Wd)) (v1 : Int32) (v2 : Int32) (v3 : Int32) (v4 : Int32) (v5 : Int32) (v6 : Int32) (v7 : Int32) (v8 : Int32) (w : Wd) : Option (Int32 × Wd) :=
  if v6 ≤ v8 then
  K152 v1 v2 v3 v5 v7 w
  else
  if v7 = (0 : Int32) then
  if inb ((v3 * (w.1 22 2)) + v4) (12 * (N * N)) = true then
  lt (w.1 3 (Int32.toNatClampNeg ((v3 * (w.1 22 2)) + v4))) fun x6 =>
  if (0 : Int32) ≤ x6 then
  if inb x6 (N * N) = true then
  lt (w.1 23 (Int32.toNatClampNeg x6)) fun x7 =>
  R v1 v2 v3 x6 v5 v6 x7 (v8 + (1 : Int32)) w
  else none
  else
  K134 v1 v2 v3 v5 v7 w
  else none
  else
  K152 v1 v2 v3 v5 v7 w
set_option maxRecDepth 20000 in
theorem sb_X6_attacked_98 {E : Ev} (hL : LX E) {R : Int32 → Int32 → Int32 → Int32 → Int32 → Int32 → Int32 → Int32 → Wd → Option (Int32 × Wd)} (hR : ∀ (v1 : Int32) (v2 : Int32) (v3 : Int32) (v4 : Int32) (v5 : Int32) (v6 : Int32) (v7 : Int32) (v8 : Int32) (w : Wd), Sim E m_X6_attacked rI 98 [(0, .ref (Ea E 22)), (1, .int v1), (2, .int v2), (3, .int v3), (4, .int v4), (5, .int v5), (6, .int v6), (7, .int v7), (8, .int v8)] [] w (R v1 v2 v3 v4 v5 v6 v7 v8 w)) {K134 : Int32 → Int32 → Int32 → Int32 → Int32 → Wd → Option (Int32 × Wd)} (hK134 : ∀ (v1 : Int32) (v2 : Int32) (v3 : Int32) (v5 : Int32) (v7 : Int32) (w : Wd), Sim E m_X6_attacked rI 134 [(0, .ref (Ea E 22)), (1, .int v1), (2, .int v2), (3, .int v3), (5, .int v5), (7, .int v7)] [] w (K134 v1 v2 v3 v5 v7 w)) {K152 : Int32 → Int32 → Int32 → Int32 → Int32 → Wd → Option (Int32 × Wd)} (hK152 : ∀ (v1 : Int32) (v2 : Int32) (v3 : Int32) (v5 : Int32) (v7 : Int32) (w : Wd), Sim E m_X6_attacked rI 152 [(0, .ref (Ea E 22)), (1, .int v1), (2, .int v2), (3, .int v3), (5, .int v5), (7, .int v7)] [] w (K152 v1 v2 v3 v5 v7 w)) (v1 : Int32) (v2 : Int32) (v3 : Int32) (v4 : Int32) (v5 : Int32) (v6 : Int32) (v7 : Int32) (v8 : Int32) (w : Wd) : Sim E m_X6_attacked rI 98 [(0, .ref (Ea E 22)), (1, .int v1), (2, .int v2), (3, .int v3), (4, .int v4), (5, .int v5), (6, .int v6), (7, .int v7), (8, .int v8)] [] w (b_X6_attacked_98 (En E) R K134 K152 v1 v2 v3 v4 v5 v6 v7 v8 w) := by
  unfold b_X6_attacked_98
  refine sim_iload 8 dX6_attacked_98 rfl rfl ?_
  refine sim_iload 6 dX6_attacked_100 rfl rfl ?_
  refine sim_icmp_ge 152 dX6_attacked_102 rfl rfl (fun _ => ?_) (fun _ => ?_)
  · exact sim_sub [0, 1, 2, 3, 5, 7] rfl (hK152 v1 v2 v3 v5 v7 w)
  · refine sim_iload 7 dX6_attacked_105 rfl rfl ?_
    refine sim_if_ne 152 dX6_attacked_107 rfl rfl (fun _ => ?_) (fun _ => ?_)
    · exact sim_sub [0, 1, 2, 3, 5, 7] rfl (hK152 v1 v2 v3 v5 v7 w)
    · refine sim_aload_n 0 dX6_attacked_110 rfl rfl ?_
      refine sim_get (k := 22) (ci := 4) (j := 0) (v := .ref (Ea E 2)) (hL.1 22 rfl) rfl (by decide) fl_X6_18 rfl dX6_attacked_111 rfl ?_
      refine sim_get (k := 2) (ci := 6) (j := 2) (v := .ref (Ea E 3)) (hL.1 2 rfl) rfl (by decide) fl_X6_85 rfl dX6_attacked_114 rfl ?_
      refine sim_iload_n 3 dX6_attacked_117 rfl rfl ?_
      refine sim_aload_n 0 dX6_attacked_118 rfl rfl ?_
      refine sim_get (k := 22) (ci := 4) (j := 2) (v := .int (w.1 22 2)) (hL.1 22 rfl) rfl (by decide) fl_X6_32 rfl dX6_attacked_119 rfl ?_
      refine sim_imul dX6_attacked_122 rfl ?_
      refine sim_iload 4 dX6_attacked_123 rfl rfl ?_
      refine sim_iadd dX6_attacked_125 rfl ?_
      refine sim_iaload (k := 3) (hL.1 3 rfl) rfl rfl dX6_attacked_126 rfl ?_
      refine sim_lt (fun x6 => ?_)
      refine sim_istore [(4, .int x6), (0, .ref (Ea E 22)), (1, .int v1), (2, .int v2), (3, .int v3), (5, .int v5), (6, .int v6), (7, .int v7), (8, .int v8)] dX6_attacked_127 (Nat.le_of_ble_eq_true rfl) rfl rfl ?_
      refine sim_iload 0 dX6_attacked_129 rfl rfl ?_
      refine sim_if_ge 137 dX6_attacked_131 rfl rfl (fun _ => ?_) (fun _ => ?_)
      · refine sim_aload_n 1 dX6_attacked_137 rfl rfl ?_
        refine sim_get (k := 22) (ci := 4) (j := 3) (v := .ref (Ea E 23)) (hL.1 22 rfl) rfl (by decide) fl_X6_33 rfl dX6_attacked_138 rfl ?_
        refine sim_iload 0 dX6_attacked_141 rfl rfl ?_
        refine sim_iaload (k := 23) (hL.1 23 rfl) rfl rfl dX6_attacked_143 rfl ?_
        refine sim_lt (fun x7 => ?_)
        refine sim_istore [(7, .int x7), (4, .int x6), (0, .ref (Ea E 22)), (1, .int v1), (2, .int v2), (3, .int v3), (5, .int v5), (6, .int v6), (8, .int v8)] dX6_attacked_144 (Nat.le_of_ble_eq_true rfl) rfl rfl ?_
        refine sim_iinc (v8 + (1 : Int32)) 8 [(8, .int (v8 + (1 : Int32))), (7, .int x7), (4, .int x6), (0, .ref (Ea E 22)), (1, .int v1), (2, .int v2), (3, .int v3), (5, .int v5), (6, .int v6)] dX6_attacked_146 rfl rfl (Nat.le_of_ble_eq_true rfl) rfl rfl ?_
        refine sim_goto (q := 98) dX6_attacked_149 rfl ?_
        exact sim_sub [3, 4, 5, 6, 2, 7, 8, 1, 0] rfl (hR v1 v2 v3 x6 v5 v6 x7 (v8 + (1 : Int32)) w)
      · exact sim_sub [1, 2, 3, 4, 5, 7] rfl (hK134 v1 v2 v3 v5 v7 w)
def l_X6_attacked_98 (N : Nat) (K134 : Int32 → Int32 → Int32 → Int32 → Int32 → Wd → Option (Int32 × Wd)) (K152 : Int32 → Int32 → Int32 → Int32 → Int32 → Wd → Option (Int32 × Wd)) (n : Nat) : Int32 → Int32 → Int32 → Int32 → Int32 → Int32 → Int32 → Int32 → Wd → Option (Int32 × Wd) := itr (fun _ _ _ _ _ _ _ _ _ => none) (fun R => b_X6_attacked_98 N R K134 K152) n
set_option maxRecDepth 20000 in
theorem sl_X6_attacked_98 {E : Ev} (hL : LX E) {K134 : Int32 → Int32 → Int32 → Int32 → Int32 → Wd → Option (Int32 × Wd)} (hK134 : ∀ (v1 : Int32) (v2 : Int32) (v3 : Int32) (v5 : Int32) (v7 : Int32) (w : Wd), Sim E m_X6_attacked rI 134 [(0, .ref (Ea E 22)), (1, .int v1), (2, .int v2), (3, .int v3), (5, .int v5), (7, .int v7)] [] w (K134 v1 v2 v3 v5 v7 w)) {K152 : Int32 → Int32 → Int32 → Int32 → Int32 → Wd → Option (Int32 × Wd)} (hK152 : ∀ (v1 : Int32) (v2 : Int32) (v3 : Int32) (v5 : Int32) (v7 : Int32) (w : Wd), Sim E m_X6_attacked rI 152 [(0, .ref (Ea E 22)), (1, .int v1), (2, .int v2), (3, .int v3), (5, .int v5), (7, .int v7)] [] w (K152 v1 v2 v3 v5 v7 w)) : ∀ (n : Nat) (v1 : Int32) (v2 : Int32) (v3 : Int32) (v4 : Int32) (v5 : Int32) (v6 : Int32) (v7 : Int32) (v8 : Int32) (w : Wd), Sim E m_X6_attacked rI 98 [(0, .ref (Ea E 22)), (1, .int v1), (2, .int v2), (3, .int v3), (4, .int v4), (5, .int v5), (6, .int v6), (7, .int v7), (8, .int v8)] [] w (l_X6_attacked_98 (En E) K134 K152 n v1 v2 v3 v4 v5 v6 v7 v8 w) := by
  intro n
  induction n with
  | zero => intros; exact sim_none
  | succ n ih => intros; exact sb_X6_attacked_98 hL (R := l_X6_attacked_98 (En E) K134 K152 n) ih hK134 hK152 _ _ _ _ _ _ _ _ _
def f_X6_attacked_181 (N : Nat) (R : Int32 → Int32 → Int32 → Wd → Option (Int32 × Wd)) (K93 : Wd → Option (Int32 × Wd)) (K179 : Wd → Option (Int32 × Wd)) (K187 : Wd → Option (Int32 × Wd)) (v1 : Int32) (v2 : Int32) (v3 : Int32) (w : Wd) : Option (Int32 × Wd) :=
  R v1 v2 (v3 + (1 : Int32)) w
set_option maxRecDepth 20000 in
theorem sf_X6_attacked_181 {E : Ev} (hL : LX E) {R : Int32 → Int32 → Int32 → Wd → Option (Int32 × Wd)} (hR : ∀ (v1 : Int32) (v2 : Int32) (v3 : Int32) (w : Wd), Sim E m_X6_attacked rI 2 [(0, .ref (Ea E 22)), (1, .int v1), (2, .int v2), (3, .int v3)] [] w (R v1 v2 v3 w)) {K93 : Wd → Option (Int32 × Wd)} (hK93 : ∀ (w : Wd), Sim E m_X6_attacked rI 93 [] [] w (K93  w)) {K179 : Wd → Option (Int32 × Wd)} (hK179 : ∀ (w : Wd), Sim E m_X6_attacked rI 179 [] [] w (K179  w)) {K187 : Wd → Option (Int32 × Wd)} (hK187 : ∀ (w : Wd), Sim E m_X6_attacked rI 187 [] [] w (K187  w)) (v1 : Int32) (v2 : Int32) (v3 : Int32) (w : Wd) : Sim E m_X6_attacked rI 181 [(0, .ref (Ea E 22)), (1, .int v1), (2, .int v2), (3, .int v3)] [] w (f_X6_attacked_181 (En E) R K93 K179 K187 v1 v2 v3 w) := by
  unfold f_X6_attacked_181
  refine sim_iinc (v3 + (1 : Int32)) 3 [(3, .int (v3 + (1 : Int32))), (0, .ref (Ea E 22)), (1, .int v1), (2, .int v2)] dX6_attacked_181 rfl rfl (Nat.le_of_ble_eq_true rfl) rfl rfl ?_
  refine sim_goto (q := 2) dX6_attacked_184 rfl ?_
  exact sim_sub [1, 2, 3, 0] rfl (hR v1 v2 (v3 + (1 : Int32)) w)
def f_X6_attacked_152 (N : Nat) (R : Int32 → Int32 → Int32 → Wd → Option (Int32 × Wd)) (K93 : Wd → Option (Int32 × Wd)) (K179 : Wd → Option (Int32 × Wd)) (K187 : Wd → Option (Int32 × Wd)) (v1 : Int32) (v2 : Int32) (v3 : Int32) (v5 : Int32) (v7 : Int32) (w : Wd) : Option (Int32 × Wd) :=
  bd (f_X2_sideOf v7 w) fun x8 w9 =>
  if x8 = v1 then
  if inb v7 33 = true then
  if (((w9.1 9 (Int32.toNatClampNeg v7)) >>> (v5 &&& 31)) &&& (1 : Int32)) = (0 : Int32) then
  f_X6_attacked_181 N R K93 K179 K187 v1 v2 v3 w9
  else
  K179 w9
  else none
  else
  f_X6_attacked_181 N R K93 K179 K187 v1 v2 v3 w9
set_option maxRecDepth 20000 in
theorem sf_X6_attacked_152 {E : Ev} (hL : LX E) {R : Int32 → Int32 → Int32 → Wd → Option (Int32 × Wd)} (hR : ∀ (v1 : Int32) (v2 : Int32) (v3 : Int32) (w : Wd), Sim E m_X6_attacked rI 2 [(0, .ref (Ea E 22)), (1, .int v1), (2, .int v2), (3, .int v3)] [] w (R v1 v2 v3 w)) {K93 : Wd → Option (Int32 × Wd)} (hK93 : ∀ (w : Wd), Sim E m_X6_attacked rI 93 [] [] w (K93  w)) {K179 : Wd → Option (Int32 × Wd)} (hK179 : ∀ (w : Wd), Sim E m_X6_attacked rI 179 [] [] w (K179  w)) {K187 : Wd → Option (Int32 × Wd)} (hK187 : ∀ (w : Wd), Sim E m_X6_attacked rI 187 [] [] w (K187  w)) (v1 : Int32) (v2 : Int32) (v3 : Int32) (v5 : Int32) (v7 : Int32) (w : Wd) : Sim E m_X6_attacked rI 152 [(0, .ref (Ea E 22)), (1, .int v1), (2, .int v2), (3, .int v3), (5, .int v5), (7, .int v7)] [] w (f_X6_attacked_152 (En E) R K93 K179 K187 v1 v2 v3 v5 v7 w) := by
  unfold f_X6_attacked_152
  refine sim_iload 5 dX6_attacked_152 rfl rfl ?_
  refine sim_cSi [.int v7] [] (c_X2_sideOf v7 w) cb_X6_58 sx_X2_sideOf rfl rfl rfl (Nat.le_of_ble_eq_true rfl) dX6_attacked_154 rfl (fun x8 w9 => ?_)
  refine sim_iload_n 1 dX6_attacked_157 rfl rfl ?_
  refine sim_icmp_ne 181 dX6_attacked_158 rfl rfl (fun _ => ?_) (fun _ => ?_)
  · exact sim_sub [0, 1, 2, 3] rfl (sf_X6_attacked_181 hL hR hK93 hK179 hK187 v1 v2 v3 w9)
  · refine sim_aload_n 0 dX6_attacked_161 rfl rfl ?_
    refine sim_get (k := 22) (ci := 4) (j := 0) (v := .ref (Ea E 2)) (hL.1 22 rfl) rfl (by decide) fl_X6_18 rfl dX6_attacked_162 rfl ?_
    refine sim_get (k := 2) (ci := 6) (j := 8) (v := .ref (Ea E 9)) (hL.1 2 rfl) rfl (by decide) fl_X6_94 rfl dX6_attacked_165 rfl ?_
    refine sim_iload 5 dX6_attacked_168 rfl rfl ?_
    refine sim_iaload (k := 9) (hL.1 9 rfl) rfl rfl dX6_attacked_170 rfl ?_
    refine sim_iload 4 dX6_attacked_171 rfl rfl ?_
    refine sim_ishr dX6_attacked_173 rfl ?_
    refine sim_iconst (1 : Int32) dX6_attacked_174 rfl rfl ?_
    refine sim_iand dX6_attacked_175 rfl ?_
    refine sim_if_eq 181 dX6_attacked_176 rfl rfl (fun _ => ?_) (fun _ => ?_)
    · exact sim_sub [0, 1, 2, 3] rfl (sf_X6_attacked_181 hL hR hK93 hK179 hK187 v1 v2 v3 w9)
    · exact sim_sub [] rfl (hK179 w9)
def f_X6_attacked_134 (N : Nat) (R : Int32 → Int32 → Int32 → Wd → Option (Int32 × Wd)) (K93 : Wd → Option (Int32 × Wd)) (K179 : Wd → Option (Int32 × Wd)) (K187 : Wd → Option (Int32 × Wd)) (v1 : Int32) (v2 : Int32) (v3 : Int32) (v5 : Int32) (v7 : Int32) (w : Wd) : Option (Int32 × Wd) :=
  f_X6_attacked_152 N R K93 K179 K187 v1 v2 v3 v5 v7 w
set_option maxRecDepth 20000 in
theorem sf_X6_attacked_134 {E : Ev} (hL : LX E) {R : Int32 → Int32 → Int32 → Wd → Option (Int32 × Wd)} (hR : ∀ (v1 : Int32) (v2 : Int32) (v3 : Int32) (w : Wd), Sim E m_X6_attacked rI 2 [(0, .ref (Ea E 22)), (1, .int v1), (2, .int v2), (3, .int v3)] [] w (R v1 v2 v3 w)) {K93 : Wd → Option (Int32 × Wd)} (hK93 : ∀ (w : Wd), Sim E m_X6_attacked rI 93 [] [] w (K93  w)) {K179 : Wd → Option (Int32 × Wd)} (hK179 : ∀ (w : Wd), Sim E m_X6_attacked rI 179 [] [] w (K179  w)) {K187 : Wd → Option (Int32 × Wd)} (hK187 : ∀ (w : Wd), Sim E m_X6_attacked rI 187 [] [] w (K187  w)) (v1 : Int32) (v2 : Int32) (v3 : Int32) (v5 : Int32) (v7 : Int32) (w : Wd) : Sim E m_X6_attacked rI 134 [(0, .ref (Ea E 22)), (1, .int v1), (2, .int v2), (3, .int v3), (5, .int v5), (7, .int v7)] [] w (f_X6_attacked_134 (En E) R K93 K179 K187 v1 v2 v3 v5 v7 w) := by
  unfold f_X6_attacked_134
  refine sim_goto (q := 152) dX6_attacked_134 rfl ?_
  exact sim_sub [0, 1, 2, 3, 4, 5] rfl (sf_X6_attacked_152 hL hR hK93 hK179 hK187 v1 v2 v3 v5 v7 w)
def f_X6_attacked_95 (N : Nat) (R : Int32 → Int32 → Int32 → Wd → Option (Int32 × Wd)) (K93 : Wd → Option (Int32 × Wd)) (K179 : Wd → Option (Int32 × Wd)) (K187 : Wd → Option (Int32 × Wd)) (v1 : Int32) (v2 : Int32) (v3 : Int32) (v4 : Int32) (v5 : Int32) (v6 : Int32) (v7 : Int32) (w : Wd) : Option (Int32 × Wd) :=
  l_X6_attacked_98 N (f_X6_attacked_134 N R K93 K179 K187) (f_X6_attacked_152 N R K93 K179 K187) FU v1 v2 v3 v4 v5 v6 v7 (2 : Int32) w
set_option maxRecDepth 20000 in
theorem sf_X6_attacked_95 {E : Ev} (hL : LX E) {R : Int32 → Int32 → Int32 → Wd → Option (Int32 × Wd)} (hR : ∀ (v1 : Int32) (v2 : Int32) (v3 : Int32) (w : Wd), Sim E m_X6_attacked rI 2 [(0, .ref (Ea E 22)), (1, .int v1), (2, .int v2), (3, .int v3)] [] w (R v1 v2 v3 w)) {K93 : Wd → Option (Int32 × Wd)} (hK93 : ∀ (w : Wd), Sim E m_X6_attacked rI 93 [] [] w (K93  w)) {K179 : Wd → Option (Int32 × Wd)} (hK179 : ∀ (w : Wd), Sim E m_X6_attacked rI 179 [] [] w (K179  w)) {K187 : Wd → Option (Int32 × Wd)} (hK187 : ∀ (w : Wd), Sim E m_X6_attacked rI 187 [] [] w (K187  w)) (v1 : Int32) (v2 : Int32) (v3 : Int32) (v4 : Int32) (v5 : Int32) (v6 : Int32) (v7 : Int32) (w : Wd) : Sim E m_X6_attacked rI 95 [(0, .ref (Ea E 22)), (1, .int v1), (2, .int v2), (3, .int v3), (4, .int v4), (5, .int v5), (6, .int v6), (7, .int v7)] [] w (f_X6_attacked_95 (En E) R K93 K179 K187 v1 v2 v3 v4 v5 v6 v7 w) := by
  unfold f_X6_attacked_95
  refine sim_iconst (2 : Int32) dX6_attacked_95 rfl rfl ?_
  refine sim_istore [(8, .int (2 : Int32)), (0, .ref (Ea E 22)), (1, .int v1), (2, .int v2), (3, .int v3), (4, .int v4), (5, .int v5), (6, .int v6), (7, .int v7)] dX6_attacked_96 (Nat.le_of_ble_eq_true rfl) rfl rfl ?_
  exact sim_sub [1, 2, 3, 4, 5, 6, 7, 8, 0] rfl (sl_X6_attacked_98 hL (sf_X6_attacked_134 hL hR hK93 hK179 hK187) (sf_X6_attacked_152 hL hR hK93 hK179 hK187) FU v1 v2 v3 v4 v5 v6 v7 (2 : Int32) w)
def f_X6_attacked_55 (N : Nat) (R : Int32 → Int32 → Int32 → Wd → Option (Int32 × Wd)) (K93 : Wd → Option (Int32 × Wd)) (K179 : Wd → Option (Int32 × Wd)) (K187 : Wd → Option (Int32 × Wd)) (v1 : Int32) (v2 : Int32) (v3 : Int32) (v4 : Int32) (v5 : Int32) (s0 : Int32) (w : Wd) : Option (Int32 × Wd) :=
  if inb v4 (N * N) = true then
  lt (w.1 23 (Int32.toNatClampNeg v4)) fun x3 =>
  bd (f_X2_sideOf x3 w) fun x4 w5 =>
  if x4 = v1 then
  if inb x3 33 = true then
  if (((w5.1 8 (Int32.toNatClampNeg x3)) >>> (v5 &&& 31)) &&& (1 : Int32)) = (0 : Int32) then
  f_X6_attacked_95 N R K93 K179 K187 v1 v2 v3 v4 v5 s0 x3 w5
  else
  K93 w5
  else none
  else
  f_X6_attacked_95 N R K93 K179 K187 v1 v2 v3 v4 v5 s0 x3 w5
  else none
set_option maxRecDepth 20000 in
theorem sf_X6_attacked_55 {E : Ev} (hL : LX E) {R : Int32 → Int32 → Int32 → Wd → Option (Int32 × Wd)} (hR : ∀ (v1 : Int32) (v2 : Int32) (v3 : Int32) (w : Wd), Sim E m_X6_attacked rI 2 [(0, .ref (Ea E 22)), (1, .int v1), (2, .int v2), (3, .int v3)] [] w (R v1 v2 v3 w)) {K93 : Wd → Option (Int32 × Wd)} (hK93 : ∀ (w : Wd), Sim E m_X6_attacked rI 93 [] [] w (K93  w)) {K179 : Wd → Option (Int32 × Wd)} (hK179 : ∀ (w : Wd), Sim E m_X6_attacked rI 179 [] [] w (K179  w)) {K187 : Wd → Option (Int32 × Wd)} (hK187 : ∀ (w : Wd), Sim E m_X6_attacked rI 187 [] [] w (K187  w)) (v1 : Int32) (v2 : Int32) (v3 : Int32) (v4 : Int32) (v5 : Int32) (s0 : Int32) (w : Wd) : Sim E m_X6_attacked rI 55 [(0, .ref (Ea E 22)), (1, .int v1), (2, .int v2), (3, .int v3), (4, .int v4), (5, .int v5)] [.int s0] w (f_X6_attacked_55 (En E) R K93 K179 K187 v1 v2 v3 v4 v5 s0 w) := by
  unfold f_X6_attacked_55
  refine sim_istore [(6, .int s0), (0, .ref (Ea E 22)), (1, .int v1), (2, .int v2), (3, .int v3), (4, .int v4), (5, .int v5)] dX6_attacked_55 (Nat.le_of_ble_eq_true rfl) rfl rfl ?_
  refine sim_aload_n 1 dX6_attacked_57 rfl rfl ?_
  refine sim_get (k := 22) (ci := 4) (j := 3) (v := .ref (Ea E 23)) (hL.1 22 rfl) rfl (by decide) fl_X6_33 rfl dX6_attacked_58 rfl ?_
  refine sim_iload 5 dX6_attacked_61 rfl rfl ?_
  refine sim_iaload (k := 23) (hL.1 23 rfl) rfl rfl dX6_attacked_63 rfl ?_
  refine sim_lt (fun x3 => ?_)
  refine sim_istore [(7, .int x3), (6, .int s0), (0, .ref (Ea E 22)), (1, .int v1), (2, .int v2), (3, .int v3), (4, .int v4), (5, .int v5)] dX6_attacked_64 (Nat.le_of_ble_eq_true rfl) rfl rfl ?_
  refine sim_iload 0 dX6_attacked_66 rfl rfl ?_
  refine sim_cSi [.int x3] [] (c_X2_sideOf x3 w) cb_X6_58 sx_X2_sideOf rfl rfl rfl (Nat.le_of_ble_eq_true rfl) dX6_attacked_68 rfl (fun x4 w5 => ?_)
  refine sim_iload_n 3 dX6_attacked_71 rfl rfl ?_
  refine sim_icmp_ne 95 dX6_attacked_72 rfl rfl (fun _ => ?_) (fun _ => ?_)
  · exact sim_sub [2, 3, 4, 5, 6, 7, 1, 0] rfl (sf_X6_attacked_95 hL hR hK93 hK179 hK187 v1 v2 v3 v4 v5 s0 x3 w5)
  · refine sim_aload_n 2 dX6_attacked_75 rfl rfl ?_
    refine sim_get (k := 22) (ci := 4) (j := 0) (v := .ref (Ea E 2)) (hL.1 22 rfl) rfl (by decide) fl_X6_18 rfl dX6_attacked_76 rfl ?_
    refine sim_get (k := 2) (ci := 6) (j := 7) (v := .ref (Ea E 8)) (hL.1 2 rfl) rfl (by decide) fl_X6_91 rfl dX6_attacked_79 rfl ?_
    refine sim_iload 0 dX6_attacked_82 rfl rfl ?_
    refine sim_iaload (k := 8) (hL.1 8 rfl) rfl rfl dX6_attacked_84 rfl ?_
    refine sim_iload 7 dX6_attacked_85 rfl rfl ?_
    refine sim_ishr dX6_attacked_87 rfl ?_
    refine sim_iconst (1 : Int32) dX6_attacked_88 rfl rfl ?_
    refine sim_iand dX6_attacked_89 rfl ?_
    refine sim_if_eq 95 dX6_attacked_90 rfl rfl (fun _ => ?_) (fun _ => ?_)
    · exact sim_sub [2, 3, 4, 5, 6, 7, 1, 0] rfl (sf_X6_attacked_95 hL hR hK93 hK179 hK187 v1 v2 v3 v4 v5 s0 x3 w5)
    · exact sim_sub [] rfl (hK93 w5)
def b_X6_attacked_2 (N : Nat) (R : Int32 → Int32 → Int32 → Wd → Option (Int32 × Wd)) (K93 : Wd → Option (Int32 × Wd)) (K179 : Wd → Option (Int32 × Wd)) (K187 : Wd → Option (Int32 × Wd)) (v1 : Int32) (v2 : Int32) (v3 : Int32) (w : Wd) : Option (Int32 × Wd) :=
  if (12 : Int32) ≤ v3 then
  K187 w
  else
  if inb ((v3 * (w.1 22 2)) + v2) (12 * (N * N)) = true then
  lt (w.1 3 (Int32.toNatClampNeg ((v3 * (w.1 22 2)) + v2))) fun x1 =>
  if (0 : Int32) ≤ x1 then
  if inb v3 12 = true then
  lt ((stV 0).getD (Int32.toNatClampNeg v3) 0) fun x2 =>
  if (8 : Int32) ≤ v3 then
  f_X6_attacked_55 N R K93 K179 K187 v1 v2 v3 x1 x2 (2 : Int32) w
  else
  f_X6_attacked_55 N R K93 K179 K187 v1 v2 v3 x1 x2 (w.1 22 1) w
  else none
  else
  f_X6_attacked_181 N R K93 K179 K187 v1 v2 v3 w
  else none
set_option maxRecDepth 20000 in
theorem sb_X6_attacked_2 {E : Ev} (hL : LX E) {R : Int32 → Int32 → Int32 → Wd → Option (Int32 × Wd)} (hR : ∀ (v1 : Int32) (v2 : Int32) (v3 : Int32) (w : Wd), Sim E m_X6_attacked rI 2 [(0, .ref (Ea E 22)), (1, .int v1), (2, .int v2), (3, .int v3)] [] w (R v1 v2 v3 w)) {K93 : Wd → Option (Int32 × Wd)} (hK93 : ∀ (w : Wd), Sim E m_X6_attacked rI 93 [] [] w (K93  w)) {K179 : Wd → Option (Int32 × Wd)} (hK179 : ∀ (w : Wd), Sim E m_X6_attacked rI 179 [] [] w (K179  w)) {K187 : Wd → Option (Int32 × Wd)} (hK187 : ∀ (w : Wd), Sim E m_X6_attacked rI 187 [] [] w (K187  w)) (v1 : Int32) (v2 : Int32) (v3 : Int32) (w : Wd) : Sim E m_X6_attacked rI 2 [(0, .ref (Ea E 22)), (1, .int v1), (2, .int v2), (3, .int v3)] [] w (b_X6_attacked_2 (En E) R K93 K179 K187 v1 v2 v3 w) := by
  unfold b_X6_attacked_2
  refine sim_iload_n 3 dX6_attacked_2 rfl rfl ?_
  refine sim_bipush (12 : Int32) dX6_attacked_3 rfl rfl ?_
  refine sim_icmp_ge 187 dX6_attacked_5 rfl rfl (fun _ => ?_) (fun _ => ?_)
  · exact sim_sub [] rfl (hK187 w)
  · refine sim_aload_n 0 dX6_attacked_8 rfl rfl ?_
    refine sim_get (k := 22) (ci := 4) (j := 0) (v := .ref (Ea E 2)) (hL.1 22 rfl) rfl (by decide) fl_X6_18 rfl dX6_attacked_9 rfl ?_
    refine sim_get (k := 2) (ci := 6) (j := 2) (v := .ref (Ea E 3)) (hL.1 2 rfl) rfl (by decide) fl_X6_85 rfl dX6_attacked_12 rfl ?_
    refine sim_iload_n 3 dX6_attacked_15 rfl rfl ?_
    refine sim_aload_n 0 dX6_attacked_16 rfl rfl ?_
    refine sim_get (k := 22) (ci := 4) (j := 2) (v := .int (w.1 22 2)) (hL.1 22 rfl) rfl (by decide) fl_X6_32 rfl dX6_attacked_17 rfl ?_
    refine sim_imul dX6_attacked_20 rfl ?_
    refine sim_iload_n 2 dX6_attacked_21 rfl rfl ?_
    refine sim_iadd dX6_attacked_22 rfl ?_
    refine sim_iaload (k := 3) (hL.1 3 rfl) rfl rfl dX6_attacked_23 rfl ?_
    refine sim_lt (fun x1 => ?_)
    refine sim_istore [(4, .int x1), (0, .ref (Ea E 22)), (1, .int v1), (2, .int v2), (3, .int v3)] dX6_attacked_24 (Nat.le_of_ble_eq_true rfl) rfl rfl ?_
    refine sim_iload 0 dX6_attacked_26 rfl rfl ?_
    refine sim_if_ge 34 dX6_attacked_28 rfl rfl (fun _ => ?_) (fun _ => ?_)
    · refine sim_gets (j := 0) (nm := "TURNED") (by decide) rfl kl_X6_88 dX6_attacked_34 rfl ?_
      refine sim_iload_n 4 dX6_attacked_37 rfl rfl ?_
      refine sim_tload (j := 0) (n := 12) (by decide) rfl dX6_attacked_38 rfl ?_
      refine sim_lt (fun x2 => ?_)
      refine sim_istore [(5, .int x2), (4, .int x1), (0, .ref (Ea E 22)), (1, .int v1), (2, .int v2), (3, .int v3)] dX6_attacked_39 (Nat.le_of_ble_eq_true rfl) rfl rfl ?_
      refine sim_iload_n 5 dX6_attacked_41 rfl rfl ?_
      refine sim_bipush (8 : Int32) dX6_attacked_42 rfl rfl ?_
      refine sim_icmp_ge 54 dX6_attacked_44 rfl rfl (fun _ => ?_) (fun _ => ?_)
      · refine sim_iconst (2 : Int32) dX6_attacked_54 rfl rfl ?_
        exact sim_sub [2, 3, 4, 5, 1, 0] rfl (sf_X6_attacked_55 hL hR hK93 hK179 hK187 v1 v2 v3 x1 x2 (2 : Int32) w)
      · refine sim_aload_n 2 dX6_attacked_47 rfl rfl ?_
        refine sim_get (k := 22) (ci := 4) (j := 1) (v := .int (w.1 22 1)) (hL.1 22 rfl) rfl (by decide) fl_X6_28 rfl dX6_attacked_48 rfl ?_
        refine sim_goto (q := 55) dX6_attacked_51 rfl ?_
        exact sim_sub [2, 3, 4, 5, 1, 0] rfl (sf_X6_attacked_55 hL hR hK93 hK179 hK187 v1 v2 v3 x1 x2 (w.1 22 1) w)
    · refine sim_goto (q := 181) dX6_attacked_31 rfl ?_
      exact sim_sub [1, 2, 3, 4] rfl (sf_X6_attacked_181 hL hR hK93 hK179 hK187 v1 v2 v3 w)
def l_X6_attacked_2 (N : Nat) (K93 : Wd → Option (Int32 × Wd)) (K179 : Wd → Option (Int32 × Wd)) (K187 : Wd → Option (Int32 × Wd)) (n : Nat) : Int32 → Int32 → Int32 → Wd → Option (Int32 × Wd) := itr (fun _ _ _ _ => none) (fun R => b_X6_attacked_2 N R K93 K179 K187) n
set_option maxRecDepth 20000 in
theorem sl_X6_attacked_2 {E : Ev} (hL : LX E) {K93 : Wd → Option (Int32 × Wd)} (hK93 : ∀ (w : Wd), Sim E m_X6_attacked rI 93 [] [] w (K93  w)) {K179 : Wd → Option (Int32 × Wd)} (hK179 : ∀ (w : Wd), Sim E m_X6_attacked rI 179 [] [] w (K179  w)) {K187 : Wd → Option (Int32 × Wd)} (hK187 : ∀ (w : Wd), Sim E m_X6_attacked rI 187 [] [] w (K187  w)) : ∀ (n : Nat) (v1 : Int32) (v2 : Int32) (v3 : Int32) (w : Wd), Sim E m_X6_attacked rI 2 [(0, .ref (Ea E 22)), (1, .int v1), (2, .int v2), (3, .int v3)] [] w (l_X6_attacked_2 (En E) K93 K179 K187 n v1 v2 v3 w) := by
  intro n
  induction n with
  | zero => intros; exact sim_none
  | succ n ih => intros; exact sb_X6_attacked_2 hL (R := l_X6_attacked_2 (En E) K93 K179 K187 n) ih hK93 hK179 hK187 _ _ _ _
def f_X6_attacked_93 (N : Nat) (w : Wd) : Option (Int32 × Wd) :=
  if zb (1 : Int32) = true then some ((1 : Int32), w) else none
set_option maxRecDepth 20000 in
theorem sf_X6_attacked_93 {E : Ev} (hL : LX E) (w : Wd) : Sim E m_X6_attacked rI 93 [] [] w (f_X6_attacked_93 (En E) w) := by
  unfold f_X6_attacked_93
  refine sim_iconst (1 : Int32) dX6_attacked_93 rfl rfl ?_
  exact sim_zret rfl dX6_attacked_94
def f_X6_attacked_179 (N : Nat) (w : Wd) : Option (Int32 × Wd) :=
  if zb (1 : Int32) = true then some ((1 : Int32), w) else none
set_option maxRecDepth 20000 in
theorem sf_X6_attacked_179 {E : Ev} (hL : LX E) (w : Wd) : Sim E m_X6_attacked rI 179 [] [] w (f_X6_attacked_179 (En E) w) := by
  unfold f_X6_attacked_179
  refine sim_iconst (1 : Int32) dX6_attacked_179 rfl rfl ?_
  exact sim_zret rfl dX6_attacked_180
def f_X6_attacked_187 (N : Nat) (w : Wd) : Option (Int32 × Wd) :=
  if zb (0 : Int32) = true then some ((0 : Int32), w) else none
set_option maxRecDepth 20000 in
theorem sf_X6_attacked_187 {E : Ev} (hL : LX E) (w : Wd) : Sim E m_X6_attacked rI 187 [] [] w (f_X6_attacked_187 (En E) w) := by
  unfold f_X6_attacked_187
  refine sim_iconst (0 : Int32) dX6_attacked_187 rfl rfl ?_
  exact sim_zret rfl dX6_attacked_188
def f_X6_attacked (N : Nat) (v1 : Int32) (v2 : Int32) (w : Wd) : Option (Int32 × Wd) :=
  l_X6_attacked_2 N (f_X6_attacked_93 N) (f_X6_attacked_179 N) (f_X6_attacked_187 N) FU v1 v2 (0 : Int32) w
set_option maxRecDepth 20000 in
theorem c_X6_attacked {E : Ev} (hL : LX E) (v1 : Int32) (v2 : Int32) (w : Wd) : Ct E m_X6_attacked yX6_attacked rI [.ref (Ea E 22), .int v1, .int v2] w (f_X6_attacked (En E) v1 v2 w) := by
  refine Ct.of (by decide) ⟨rfl, rfl⟩ (Nat.le_of_ble_eq_true rfl) ?_
  show Sim E m_X6_attacked rI 0 [(0, .ref (Ea E 22)), (1, .int v1), (2, .int v2)] [] w (f_X6_attacked (En E) v1 v2 w)
  unfold f_X6_attacked
  refine sim_iconst (0 : Int32) dX6_attacked_0 rfl rfl ?_
  refine sim_istore_n [(3, .int (0 : Int32)), (0, .ref (Ea E 22)), (1, .int v1), (2, .int v2)] dX6_attacked_1 (Nat.le_of_ble_eq_true rfl) rfl rfl ?_
  exact sim_sub [1, 2, 3, 0] rfl (sl_X6_attacked_2 hL (sf_X6_attacked_93 hL) (sf_X6_attacked_179 hL) (sf_X6_attacked_187 hL) FU v1 v2 (0 : Int32) w)
def f_X6_inCheck (N : Nat) (v1 : Int32) (w : Wd) : Option (Int32 × Wd) :=
  if inb v1 2 = true then
  bd (f_X6_attacked N ((1 : Int32) - v1) (w.1 25 (Int32.toNatClampNeg v1)) w) fun x1 w2 =>
  if zb x1 = true then some (x1, w2) else none
  else none
set_option maxRecDepth 20000 in
theorem c_X6_inCheck {E : Ev} (hL : LX E) (v1 : Int32) (w : Wd) : Ct E m_X6_inCheck yX6_inCheck rI [.ref (Ea E 22), .int v1] w (f_X6_inCheck (En E) v1 w) := by
  refine Ct.of (by decide) ⟨rfl, rfl⟩ (Nat.le_of_ble_eq_true rfl) ?_
  show Sim E m_X6_inCheck rI 0 [(0, .ref (Ea E 22)), (1, .int v1)] [] w (f_X6_inCheck (En E) v1 w)
  unfold f_X6_inCheck
  refine sim_aload_n 0 dX6_inCheck_0 rfl rfl ?_
  refine sim_iconst (1 : Int32) dX6_inCheck_1 rfl rfl ?_
  refine sim_iload_n 1 dX6_inCheck_2 rfl rfl ?_
  refine sim_isub dX6_inCheck_3 rfl ?_
  refine sim_aload_n 0 dX6_inCheck_4 rfl rfl ?_
  refine sim_get (k := 22) (ci := 4) (j := 5) (v := .ref (Ea E 25)) (hL.1 22 rfl) rfl (by decide) fl_X6_15 rfl dX6_inCheck_5 rfl ?_
  refine sim_iload_n 1 dX6_inCheck_8 rfl rfl ?_
  refine sim_iaload (k := 25) (hL.1 25 rfl) rfl rfl dX6_inCheck_9 rfl ?_
  refine sim_cVi (k := 22) (ci := 4) [.int ((1 : Int32) - v1), .int (w.1 25 (Int32.toNatClampNeg v1))] [] (c_X6_attacked hL ((1 : Int32) - v1) (w.1 25 (Int32.toNatClampNeg v1)) w) (hL.1 22 rfl) rfl (by decide) rfl cb_X6_81 im_X6_attacked se_X6_attacked rfl rfl rfl (Nat.le_of_ble_eq_true rfl) dX6_inCheck_10 rfl (fun x1 w2 => ?_)
  exact sim_zret rfl dX6_inCheck_13
def f_X3_isSetting_17 (s0 : Int32) (w : Wd) : Option (Int32 × Wd) :=
  if zb s0 = true then some (s0, w) else none
set_option maxRecDepth 20000 in
theorem sf_X3_isSetting_17 {E : Ev} (s0 : Int32) (w : Wd) : Sim E m_X3_isSetting rI 17 [] [.int s0] w (f_X3_isSetting_17 s0 w) := by
  unfold f_X3_isSetting_17
  exact sim_zret rfl dX3_isSetting_17
def f_X3_isSetting (v0 : Int32) (w : Wd) : Option (Int32 × Wd) :=
  if ((v0 >>> ((6 : Int32) &&& 31)) &&& (63 : Int32)) = (63 : Int32) then
  f_X3_isSetting_17 (1 : Int32) w
  else
  f_X3_isSetting_17 (0 : Int32) w
set_option maxRecDepth 20000 in
theorem c_X3_isSetting {E : Ev} (v0 : Int32) (w : Wd) : Ct E m_X3_isSetting yX3_isSetting rI [.int v0] w (f_X3_isSetting v0 w) := by
  refine Ct.of (by decide) ⟨rfl, rfl⟩ (Nat.le_of_ble_eq_true rfl) ?_
  show Sim E m_X3_isSetting rI 0 [(0, .int v0)] [] w (f_X3_isSetting v0 w)
  unfold f_X3_isSetting
  refine sim_iload_n 0 dX3_isSetting_0 rfl rfl ?_
  refine sim_bipush (6 : Int32) dX3_isSetting_1 rfl rfl ?_
  refine sim_ishr dX3_isSetting_3 rfl ?_
  refine sim_bipush (63 : Int32) dX3_isSetting_4 rfl rfl ?_
  refine sim_iand dX3_isSetting_6 rfl ?_
  refine sim_bipush (63 : Int32) dX3_isSetting_7 rfl rfl ?_
  refine sim_icmp_ne 16 dX3_isSetting_9 rfl rfl (fun _ => ?_) (fun _ => ?_)
  · refine sim_iconst (0 : Int32) dX3_isSetting_16 rfl rfl ?_
    exact sim_sub [] rfl (sf_X3_isSetting_17  (0 : Int32) w)
  · refine sim_iconst (1 : Int32) dX3_isSetting_12 rfl rfl ?_
    refine sim_goto (q := 17) dX3_isSetting_13 rfl ?_
    exact sim_sub [] rfl (sf_X3_isSetting_17  (1 : Int32) w)
def f_X5_hasSecondMark_25 (N : Nat) (s0 : Int32) (w : Wd) : Option (Int32 × Wd) :=
  if zb s0 = true then some (s0, w) else none
set_option maxRecDepth 20000 in
theorem sf_X5_hasSecondMark_25 {E : Ev} (hL : LX E) (s0 : Int32) (w : Wd) : Sim E m_X5_hasSecondMark rI 25 [] [.int s0] w (f_X5_hasSecondMark_25 (En E) s0 w) := by
  unfold f_X5_hasSecondMark_25
  exact sim_zret rfl dX5_hasSecondMark_25
def f_X5_hasSecondMark (N : Nat) (v1 : Int32) (w : Wd) : Option (Int32 × Wd) :=
  if inb ((v1 >>> ((13 : Int32) &&& 31)) &&& (7 : Int32)) 8 = true then
  if ((w.1 10 (Int32.toNatClampNeg ((v1 >>> ((13 : Int32) &&& 31)) &&& (7 : Int32)))) &&& (2 : Int32)) = (0 : Int32) then
  f_X5_hasSecondMark_25 N (0 : Int32) w
  else
  f_X5_hasSecondMark_25 N (1 : Int32) w
  else none
set_option maxRecDepth 20000 in
theorem c_X5_hasSecondMark {E : Ev} (hL : LX E) (v1 : Int32) (w : Wd) : Ct E m_X5_hasSecondMark yX5_hasSecondMark rI [.ref (Ea E 27), .int v1] w (f_X5_hasSecondMark (En E) v1 w) := by
  refine Ct.of (by decide) ⟨rfl, rfl⟩ (Nat.le_of_ble_eq_true rfl) ?_
  show Sim E m_X5_hasSecondMark rI 0 [(0, .ref (Ea E 27)), (1, .int v1)] [] w (f_X5_hasSecondMark (En E) v1 w)
  unfold f_X5_hasSecondMark
  refine sim_aload_n 0 dX5_hasSecondMark_0 rfl rfl ?_
  refine sim_get (k := 27) (ci := 3) (j := 0) (v := .ref (Ea E 2)) (hL.1 27 rfl) rfl (by decide) fl_X5_9 rfl dX5_hasSecondMark_1 rfl ?_
  refine sim_get (k := 2) (ci := 6) (j := 9) (v := .ref (Ea E 10)) (hL.1 2 rfl) rfl (by decide) fl_X5_87 rfl dX5_hasSecondMark_4 rfl ?_
  refine sim_iload_n 1 dX5_hasSecondMark_7 rfl rfl ?_
  refine sim_bipush (13 : Int32) dX5_hasSecondMark_8 rfl rfl ?_
  refine sim_ishr dX5_hasSecondMark_10 rfl ?_
  refine sim_bipush (7 : Int32) dX5_hasSecondMark_11 rfl rfl ?_
  refine sim_iand dX5_hasSecondMark_13 rfl ?_
  refine sim_iaload (k := 10) (hL.1 10 rfl) rfl rfl dX5_hasSecondMark_14 rfl ?_
  refine sim_iconst (2 : Int32) dX5_hasSecondMark_15 rfl rfl ?_
  refine sim_iand dX5_hasSecondMark_16 rfl ?_
  refine sim_if_eq 24 dX5_hasSecondMark_17 rfl rfl (fun _ => ?_) (fun _ => ?_)
  · refine sim_iconst (0 : Int32) dX5_hasSecondMark_24 rfl rfl ?_
    exact sim_sub [] rfl (sf_X5_hasSecondMark_25 hL (0 : Int32) w)
  · refine sim_iconst (1 : Int32) dX5_hasSecondMark_20 rfl rfl ?_
    refine sim_goto (q := 25) dX5_hasSecondMark_21 rfl ?_
    exact sim_sub [] rfl (sf_X5_hasSecondMark_25 hL (1 : Int32) w)
def f_X6_revert_158 (N : Nat) (w : Wd) : Option (Unit × Wd) :=
  some ((), w)
set_option maxRecDepth 20000 in
theorem sf_X6_revert_158 {E : Ev} (hL : LX E) (w : Wd) : Sim E m_X6_revert rV 158 [] [] w (f_X6_revert_158 (En E) w) := by
  unfold f_X6_revert_158
  exact sim_vret rfl dX6_revert_158
def f_X6_revert_140 (N : Nat) (v3 : Int32) (v4 : Int32) (w : Wd) : Option (Unit × Wd) :=
  bd (f_X2_kindOf v4 w) fun x7 w8 =>
  if x7 = (0 : Int32) then
  if inb (w8.1 22 7) 2 = true then
  lw (wdI w8 25 (Int32.toNatClampNeg (w8.1 22 7)) v3) fun w9 =>
  f_X6_revert_158 N w9
  else none
  else
  f_X6_revert_158 N w8
set_option maxRecDepth 20000 in
theorem sf_X6_revert_140 {E : Ev} (hL : LX E) (v3 : Int32) (v4 : Int32) (w : Wd) : Sim E m_X6_revert rV 140 [(0, .ref (Ea E 22)), (3, .int v3), (4, .int v4)] [] w (f_X6_revert_140 (En E) v3 v4 w) := by
  unfold f_X6_revert_140
  refine sim_iload 2 dX6_revert_140 rfl rfl ?_
  refine sim_cSi [.int v4] [] (c_X2_kindOf v4 w) cb_X6_51 sx_X2_kindOf rfl rfl rfl (Nat.le_of_ble_eq_true rfl) dX6_revert_142 rfl (fun x7 w8 => ?_)
  refine sim_if_ne 158 dX6_revert_145 rfl rfl (fun _ => ?_) (fun _ => ?_)
  · exact sim_sub [] rfl (sf_X6_revert_158 hL w8)
  · refine sim_aload_n 0 dX6_revert_148 rfl rfl ?_
    refine sim_get (k := 22) (ci := 4) (j := 5) (v := .ref (Ea E 25)) (hL.1 22 rfl) rfl (by decide) fl_X6_15 rfl dX6_revert_149 rfl ?_
    refine sim_aload_n 0 dX6_revert_152 rfl rfl ?_
    refine sim_get (k := 22) (ci := 4) (j := 7) (v := .int (w8.1 22 7)) (hL.1 22 rfl) rfl (by decide) fl_X6_75 rfl dX6_revert_153 rfl ?_
    refine sim_iload_n 1 dX6_revert_156 rfl rfl ?_
    refine sim_iastore (k := 25) (hL.1 25 rfl) rfl rfl dX6_revert_157 rfl ?_
    refine sim_lw (fun w9 => ?_)
    exact sim_sub [] rfl (sf_X6_revert_158 hL w9)
def f_X6_revert_89 (N : Nat) (v1 : Int32) (v2 : Int32) (v3 : Int32) (s0 : Int32) (w : Wd) : Option (Unit × Wd) :=
  lt (v1 >>> ((16 : Int32) &&& 31)) fun x4 =>
  if inb v3 (N * N) = true then
  lw (wdI w 23 (Int32.toNatClampNeg v3) s0) fun w5 =>
  if inb v2 (N * N) = true then
  lw (wdI w5 23 (Int32.toNatClampNeg v2) x4) fun w6 =>
  if x4 = (0 : Int32) then
  f_X6_revert_140 N v3 s0 w6
  else
  bd (f_X2_kindOf x4 w6) fun x10 w11 =>
  if inb (((8 : Int32) * (w6.1 22 7)) + x10) 16 = true then
  if inb (((8 : Int32) * (w6.1 22 7)) + x10) 16 = true then
  lw (wdI w11 24 (Int32.toNatClampNeg (((8 : Int32) * (w6.1 22 7)) + x10)) ((w11.1 24 (Int32.toNatClampNeg (((8 : Int32) * (w6.1 22 7)) + x10))) - (1 : Int32))) fun w12 =>
  f_X6_revert_140 N v3 s0 w12
  else none
  else none
  else none
  else none
set_option maxRecDepth 20000 in
theorem sf_X6_revert_89 {E : Ev} (hL : LX E) (v1 : Int32) (v2 : Int32) (v3 : Int32) (s0 : Int32) (w : Wd) : Sim E m_X6_revert rV 89 [(0, .ref (Ea E 22)), (1, .int v1), (2, .int v2), (3, .int v3)] [.int s0] w (f_X6_revert_89 (En E) v1 v2 v3 s0 w) := by
  unfold f_X6_revert_89
  refine sim_istore [(4, .int s0), (0, .ref (Ea E 22)), (1, .int v1), (2, .int v2), (3, .int v3)] dX6_revert_89 (Nat.le_of_ble_eq_true rfl) rfl rfl ?_
  refine sim_iload_n 2 dX6_revert_91 rfl rfl ?_
  refine sim_bipush (16 : Int32) dX6_revert_92 rfl rfl ?_
  refine sim_ishr dX6_revert_94 rfl ?_
  refine sim_lt (fun x4 => ?_)
  refine sim_istore [(5, .int x4), (4, .int s0), (0, .ref (Ea E 22)), (1, .int v1), (2, .int v2), (3, .int v3)] dX6_revert_95 (Nat.le_of_ble_eq_true rfl) rfl rfl ?_
  refine sim_aload_n 2 dX6_revert_97 rfl rfl ?_
  refine sim_get (k := 22) (ci := 4) (j := 3) (v := .ref (Ea E 23)) (hL.1 22 rfl) rfl (by decide) fl_X6_33 rfl dX6_revert_98 rfl ?_
  refine sim_iload_n 5 dX6_revert_101 rfl rfl ?_
  refine sim_iload 1 dX6_revert_102 rfl rfl ?_
  refine sim_iastore (k := 23) (hL.1 23 rfl) rfl rfl dX6_revert_104 rfl ?_
  refine sim_lw (fun w5 => ?_)
  refine sim_aload_n 2 dX6_revert_105 rfl rfl ?_
  refine sim_get (k := 22) (ci := 4) (j := 3) (v := .ref (Ea E 23)) (hL.1 22 rfl) rfl (by decide) fl_X6_33 rfl dX6_revert_106 rfl ?_
  refine sim_iload_n 4 dX6_revert_109 rfl rfl ?_
  refine sim_iload 0 dX6_revert_110 rfl rfl ?_
  refine sim_iastore (k := 23) (hL.1 23 rfl) rfl rfl dX6_revert_112 rfl ?_
  refine sim_lw (fun w6 => ?_)
  refine sim_iload 0 dX6_revert_113 rfl rfl ?_
  refine sim_if_eq 140 dX6_revert_115 rfl rfl (fun _ => ?_) (fun _ => ?_)
  · exact sim_sub [2, 5, 1] rfl (sf_X6_revert_140 hL v3 s0 w6)
  · refine sim_aload_n 2 dX6_revert_118 rfl rfl ?_
    refine sim_get (k := 22) (ci := 4) (j := 4) (v := .ref (Ea E 24)) (hL.1 22 rfl) rfl (by decide) fl_X6_9 rfl dX6_revert_119 rfl ?_
    refine sim_bipush (8 : Int32) dX6_revert_122 rfl rfl ?_
    refine sim_aload_n 2 dX6_revert_124 rfl rfl ?_
    refine sim_get (k := 22) (ci := 4) (j := 7) (v := .int (w6.1 22 7)) (hL.1 22 rfl) rfl (by decide) fl_X6_75 rfl dX6_revert_125 rfl ?_
    refine sim_imul dX6_revert_128 rfl ?_
    refine sim_iload 0 dX6_revert_129 rfl rfl ?_
    refine sim_cSi [.int x4] [.int ((8 : Int32) * (w6.1 22 7)), .ref (Ea E 24)] (c_X2_kindOf x4 w6) cb_X6_51 sx_X2_kindOf rfl rfl rfl (Nat.le_of_ble_eq_true rfl) dX6_revert_131 rfl (fun x10 w11 => ?_)
    refine sim_iadd dX6_revert_134 rfl ?_
    refine sim_dup2 dX6_revert_135 rfl rfl rfl ?_
    refine sim_iaload (k := 24) (hL.1 24 rfl) rfl rfl dX6_revert_136 rfl ?_
    refine sim_iconst (1 : Int32) dX6_revert_137 rfl rfl ?_
    refine sim_isub dX6_revert_138 rfl ?_
    refine sim_iastore (k := 24) (hL.1 24 rfl) rfl rfl dX6_revert_139 rfl ?_
    refine sim_lw (fun w12 => ?_)
    exact sim_sub [2, 5, 1] rfl (sf_X6_revert_140 hL v3 s0 w12)
def f_X6_revert (N : Nat) (v1 : Int32) (w : Wd) : Option (Unit × Wd) :=
  lt (v1 &&& (63 : Int32)) fun x1 =>
  lt ((v1 >>> ((6 : Int32) &&& 31)) &&& (63 : Int32)) fun x2 =>
  lw (wdI w 22 7 ((1 : Int32) - (w.1 22 7))) fun w3 =>
  if x2 = (63 : Int32) then
  if inb x1 (N * N) = true then
  lw (wdI w3 23 (Int32.toNatClampNeg x1) (0 : Int32)) fun w13 =>
  if inb (((8 : Int32) * (w13.1 22 7)) + ((v1 >>> ((13 : Int32) &&& 31)) &&& (7 : Int32))) 16 = true then
  if inb (((8 : Int32) * (w13.1 22 7)) + ((v1 >>> ((13 : Int32) &&& 31)) &&& (7 : Int32))) 16 = true then
  lw (wdI w13 24 (Int32.toNatClampNeg (((8 : Int32) * (w13.1 22 7)) + ((v1 >>> ((13 : Int32) &&& 31)) &&& (7 : Int32)))) ((w13.1 24 (Int32.toNatClampNeg (((8 : Int32) * (w13.1 22 7)) + ((v1 >>> ((13 : Int32) &&& 31)) &&& (7 : Int32))))) + (1 : Int32))) fun w14 =>
  f_X6_revert_158 N w14
  else none
  else none
  else none
  else
  if (v1 &&& (4096 : Int32)) = (0 : Int32) then
  if inb x1 (N * N) = true then
  f_X6_revert_89 N v1 x1 x2 (w3.1 23 (Int32.toNatClampNeg x1)) w3
  else none
  else
  if inb x1 (N * N) = true then
  f_X6_revert_89 N v1 x1 x2 ((w3.1 23 (Int32.toNatClampNeg x1)) - (8 : Int32)) w3
  else none
set_option maxRecDepth 20000 in
theorem c_X6_revert {E : Ev} (hL : LX E) (v1 : Int32) (w : Wd) : Ct E m_X6_revert yX6_revert rV [.ref (Ea E 22), .int v1] w (f_X6_revert (En E) v1 w) := by
  refine Ct.of (by decide) ⟨rfl, rfl⟩ (Nat.le_of_ble_eq_true rfl) ?_
  show Sim E m_X6_revert rV 0 [(0, .ref (Ea E 22)), (1, .int v1)] [] w (f_X6_revert (En E) v1 w)
  unfold f_X6_revert
  refine sim_iload_n 1 dX6_revert_0 rfl rfl ?_
  refine sim_bipush (63 : Int32) dX6_revert_1 rfl rfl ?_
  refine sim_iand dX6_revert_3 rfl ?_
  refine sim_lt (fun x1 => ?_)
  refine sim_istore_n [(2, .int x1), (0, .ref (Ea E 22)), (1, .int v1)] dX6_revert_4 (Nat.le_of_ble_eq_true rfl) rfl rfl ?_
  refine sim_iload_n 2 dX6_revert_5 rfl rfl ?_
  refine sim_bipush (6 : Int32) dX6_revert_6 rfl rfl ?_
  refine sim_ishr dX6_revert_8 rfl ?_
  refine sim_bipush (63 : Int32) dX6_revert_9 rfl rfl ?_
  refine sim_iand dX6_revert_11 rfl ?_
  refine sim_lt (fun x2 => ?_)
  refine sim_istore_n [(3, .int x2), (2, .int x1), (0, .ref (Ea E 22)), (1, .int v1)] dX6_revert_12 (Nat.le_of_ble_eq_true rfl) rfl rfl ?_
  refine sim_aload_n 2 dX6_revert_13 rfl rfl ?_
  refine sim_iconst (1 : Int32) dX6_revert_14 rfl rfl ?_
  refine sim_aload_n 2 dX6_revert_15 rfl rfl ?_
  refine sim_get (k := 22) (ci := 4) (j := 7) (v := .int (w.1 22 7)) (hL.1 22 rfl) rfl (by decide) fl_X6_75 rfl dX6_revert_16 rfl ?_
  refine sim_isub dX6_revert_19 rfl ?_
  refine sim_put (k := 22) (ci := 4) (j := 7) (hL.1 22 rfl) rfl (by decide) fp_X6_75 rfl rfl (st_22_7 _ _ _) (Nat.le_of_ble_eq_true rfl) dX6_revert_20 rfl ?_
  refine sim_lw (fun w3 => ?_)
  refine sim_iload_n 0 dX6_revert_23 rfl rfl ?_
  refine sim_bipush (63 : Int32) dX6_revert_24 rfl rfl ?_
  refine sim_icmp_ne 63 dX6_revert_26 rfl rfl (fun _ => ?_) (fun _ => ?_)
  · refine sim_iload_n 3 dX6_revert_63 rfl rfl ?_
    refine sim_sipush (4096 : Int32) dX6_revert_64 rfl rfl ?_
    refine sim_iand dX6_revert_67 rfl ?_
    refine sim_if_eq 83 dX6_revert_68 rfl rfl (fun _ => ?_) (fun _ => ?_)
    · refine sim_aload_n 2 dX6_revert_83 rfl rfl ?_
      refine sim_get (k := 22) (ci := 4) (j := 3) (v := .ref (Ea E 23)) (hL.1 22 rfl) rfl (by decide) fl_X6_33 rfl dX6_revert_84 rfl ?_
      refine sim_iload_n 1 dX6_revert_87 rfl rfl ?_
      refine sim_iaload (k := 23) (hL.1 23 rfl) rfl rfl dX6_revert_88 rfl ?_
      exact sim_sub [2, 3, 1, 0] rfl (sf_X6_revert_89 hL v1 x1 x2 (w3.1 23 (Int32.toNatClampNeg x1)) w3)
    · refine sim_aload_n 2 dX6_revert_71 rfl rfl ?_
      refine sim_get (k := 22) (ci := 4) (j := 3) (v := .ref (Ea E 23)) (hL.1 22 rfl) rfl (by decide) fl_X6_33 rfl dX6_revert_72 rfl ?_
      refine sim_iload_n 1 dX6_revert_75 rfl rfl ?_
      refine sim_iaload (k := 23) (hL.1 23 rfl) rfl rfl dX6_revert_76 rfl ?_
      refine sim_bipush (8 : Int32) dX6_revert_77 rfl rfl ?_
      refine sim_isub dX6_revert_79 rfl ?_
      refine sim_goto (q := 89) dX6_revert_80 rfl ?_
      exact sim_sub [2, 3, 1, 0] rfl (sf_X6_revert_89 hL v1 x1 x2 ((w3.1 23 (Int32.toNatClampNeg x1)) - (8 : Int32)) w3)
  · refine sim_aload_n 2 dX6_revert_29 rfl rfl ?_
    refine sim_get (k := 22) (ci := 4) (j := 3) (v := .ref (Ea E 23)) (hL.1 22 rfl) rfl (by decide) fl_X6_33 rfl dX6_revert_30 rfl ?_
    refine sim_iload_n 1 dX6_revert_33 rfl rfl ?_
    refine sim_iconst (0 : Int32) dX6_revert_34 rfl rfl ?_
    refine sim_iastore (k := 23) (hL.1 23 rfl) rfl rfl dX6_revert_35 rfl ?_
    refine sim_lw (fun w13 => ?_)
    refine sim_aload_n 2 dX6_revert_36 rfl rfl ?_
    refine sim_get (k := 22) (ci := 4) (j := 4) (v := .ref (Ea E 24)) (hL.1 22 rfl) rfl (by decide) fl_X6_9 rfl dX6_revert_37 rfl ?_
    refine sim_bipush (8 : Int32) dX6_revert_40 rfl rfl ?_
    refine sim_aload_n 2 dX6_revert_42 rfl rfl ?_
    refine sim_get (k := 22) (ci := 4) (j := 7) (v := .int (w13.1 22 7)) (hL.1 22 rfl) rfl (by decide) fl_X6_75 rfl dX6_revert_43 rfl ?_
    refine sim_imul dX6_revert_46 rfl ?_
    refine sim_iload_n 3 dX6_revert_47 rfl rfl ?_
    refine sim_bipush (13 : Int32) dX6_revert_48 rfl rfl ?_
    refine sim_ishr dX6_revert_50 rfl ?_
    refine sim_bipush (7 : Int32) dX6_revert_51 rfl rfl ?_
    refine sim_iand dX6_revert_53 rfl ?_
    refine sim_iadd dX6_revert_54 rfl ?_
    refine sim_dup2 dX6_revert_55 rfl rfl rfl ?_
    refine sim_iaload (k := 24) (hL.1 24 rfl) rfl rfl dX6_revert_56 rfl ?_
    refine sim_iconst (1 : Int32) dX6_revert_57 rfl rfl ?_
    refine sim_iadd dX6_revert_58 rfl ?_
    refine sim_iastore (k := 24) (hL.1 24 rfl) rfl rfl dX6_revert_59 rfl ?_
    refine sim_lw (fun w14 => ?_)
    refine sim_goto (q := 158) dX6_revert_60 rfl ?_
    exact sim_sub [] rfl (sf_X6_revert_158 hL w14)
def f_X5_isForbiddenMate_34 (N : Nat) (w : Wd) : Option (Int32 × Wd) :=
  if zb (0 : Int32) = true then some ((0 : Int32), w) else none
set_option maxRecDepth 20000 in
theorem sf_X5_isForbiddenMate_34 {E : Ev} (hL : LX E) (w : Wd) : Sim E m_X5_isForbiddenMate rI 34 [] [] w (f_X5_isForbiddenMate_34 (En E) w) := by
  unfold f_X5_isForbiddenMate_34
  refine sim_iconst (0 : Int32) dX5_isForbiddenMate_34 rfl rfl ?_
  exact sim_zret rfl dX5_isForbiddenMate_35
def f_X5_isForbiddenMate_89 (N : Nat) (R : Int32 → Int32 → Int32 → Wd → Option (Int32 × Wd)) (K105 : Wd → Option (Int32 × Wd)) (K113 : Wd → Option (Int32 × Wd)) (v2 : Int32) (v3 : Int32) (v4 : Int32) (v5 : Int32) (s0 : Int32) (w : Wd) : Option (Int32 × Wd) :=
  bd (f_X6_revert N v5 w) fun _ w16 =>
  if s0 = (0 : Int32) then
  R v2 v3 (v4 + (1 : Int32)) w16
  else
  K105 w16
set_option maxRecDepth 20000 in
theorem sf_X5_isForbiddenMate_89 {E : Ev} (hL : LX E) {R : Int32 → Int32 → Int32 → Wd → Option (Int32 × Wd)} (hR : ∀ (v2 : Int32) (v3 : Int32) (v4 : Int32) (w : Wd), Sim E m_X5_isForbiddenMate rI 49 [(0, .ref (Ea E 27)), (2, .int v2), (3, .int v3), (4, .int v4)] [] w (R v2 v3 v4 w)) {K105 : Wd → Option (Int32 × Wd)} (hK105 : ∀ (w : Wd), Sim E m_X5_isForbiddenMate rI 105 [] [] w (K105  w)) {K113 : Wd → Option (Int32 × Wd)} (hK113 : ∀ (w : Wd), Sim E m_X5_isForbiddenMate rI 113 [] [] w (K113  w)) (v2 : Int32) (v3 : Int32) (v4 : Int32) (v5 : Int32) (s0 : Int32) (w : Wd) : Sim E m_X5_isForbiddenMate rI 89 [(0, .ref (Ea E 27)), (2, .int v2), (3, .int v3), (4, .int v4), (5, .int v5)] [.int s0] w (f_X5_isForbiddenMate_89 (En E) R K105 K113 v2 v3 v4 v5 s0 w) := by
  unfold f_X5_isForbiddenMate_89
  refine sim_istore [(6, .int s0), (0, .ref (Ea E 27)), (2, .int v2), (3, .int v3), (4, .int v4), (5, .int v5)] dX5_isForbiddenMate_89 (Nat.le_of_ble_eq_true rfl) rfl rfl ?_
  refine sim_aload_n 1 dX5_isForbiddenMate_91 rfl rfl ?_
  refine sim_get (k := 27) (ci := 3) (j := 1) (v := .ref (Ea E 22)) (hL.1 27 rfl) rfl (by decide) fl_X5_13 rfl dX5_isForbiddenMate_92 rfl ?_
  refine sim_iload 5 dX5_isForbiddenMate_95 rfl rfl ?_
  refine sim_cVv (k := 22) (ci := 4) [.int v5] [] (c_X6_revert hL v5 w) (hL.1 22 rfl) rfl (by decide) rfl cb_X5_109 im_X6_revert se_X6_revert rfl rfl rfl (Nat.le_of_ble_eq_true rfl) dX5_isForbiddenMate_97 rfl (fun _ w16 => ?_)
  refine sim_iload 0 dX5_isForbiddenMate_100 rfl rfl ?_
  refine sim_if_eq 107 dX5_isForbiddenMate_102 rfl rfl (fun _ => ?_) (fun _ => ?_)
  · refine sim_iinc (v4 + (1 : Int32)) 4 [(4, .int (v4 + (1 : Int32))), (6, .int s0), (0, .ref (Ea E 27)), (2, .int v2), (3, .int v3), (5, .int v5)] dX5_isForbiddenMate_107 rfl rfl (Nat.le_of_ble_eq_true rfl) rfl rfl ?_
    refine sim_goto (q := 49) dX5_isForbiddenMate_110 rfl ?_
    exact sim_sub [2, 3, 4, 0] rfl (hR v2 v3 (v4 + (1 : Int32)) w16)
  · exact sim_sub [] rfl (hK105 w16)
def b_X5_isForbiddenMate_49 (N : Nat) (R : Int32 → Int32 → Int32 → Wd → Option (Int32 × Wd)) (K105 : Wd → Option (Int32 × Wd)) (K113 : Wd → Option (Int32 × Wd)) (v2 : Int32) (v3 : Int32) (v4 : Int32) (w : Wd) : Option (Int32 × Wd) :=
  if v3 ≤ v4 then
  K113 w
  else
  if inb v4 (270 * (N * N)) = true then
  lt (w.1 28 (Int32.toNatClampNeg v4)) fun x12 =>
  bd (f_X6_apply N x12 w) fun _ w13 =>
  bd (f_X6_inCheck N v2 w13) fun x14 w15 =>
  if x14 = (0 : Int32) then
  f_X5_isForbiddenMate_89 N R K105 K113 v2 v3 v4 x12 (1 : Int32) w15
  else
  f_X5_isForbiddenMate_89 N R K105 K113 v2 v3 v4 x12 (0 : Int32) w15
  else none
set_option maxRecDepth 20000 in
theorem sb_X5_isForbiddenMate_49 {E : Ev} (hL : LX E) {R : Int32 → Int32 → Int32 → Wd → Option (Int32 × Wd)} (hR : ∀ (v2 : Int32) (v3 : Int32) (v4 : Int32) (w : Wd), Sim E m_X5_isForbiddenMate rI 49 [(0, .ref (Ea E 27)), (2, .int v2), (3, .int v3), (4, .int v4)] [] w (R v2 v3 v4 w)) {K105 : Wd → Option (Int32 × Wd)} (hK105 : ∀ (w : Wd), Sim E m_X5_isForbiddenMate rI 105 [] [] w (K105  w)) {K113 : Wd → Option (Int32 × Wd)} (hK113 : ∀ (w : Wd), Sim E m_X5_isForbiddenMate rI 113 [] [] w (K113  w)) (v2 : Int32) (v3 : Int32) (v4 : Int32) (w : Wd) : Sim E m_X5_isForbiddenMate rI 49 [(0, .ref (Ea E 27)), (2, .int v2), (3, .int v3), (4, .int v4)] [] w (b_X5_isForbiddenMate_49 (En E) R K105 K113 v2 v3 v4 w) := by
  unfold b_X5_isForbiddenMate_49
  refine sim_iload 3 dX5_isForbiddenMate_49 rfl rfl ?_
  refine sim_iload_n 2 dX5_isForbiddenMate_51 rfl rfl ?_
  refine sim_icmp_ge 113 dX5_isForbiddenMate_52 rfl rfl (fun _ => ?_) (fun _ => ?_)
  · exact sim_sub [] rfl (hK113 w)
  · refine sim_aload_n 0 dX5_isForbiddenMate_55 rfl rfl ?_
    refine sim_get (k := 27) (ci := 3) (j := 3) (v := .ref (Ea E 28)) (hL.1 27 rfl) rfl (by decide) fl_X5_26 rfl dX5_isForbiddenMate_56 rfl ?_
    refine sim_iload 3 dX5_isForbiddenMate_59 rfl rfl ?_
    refine sim_iaload (k := 28) (hL.1 28 rfl) rfl rfl dX5_isForbiddenMate_61 rfl ?_
    refine sim_lt (fun x12 => ?_)
    refine sim_istore [(5, .int x12), (0, .ref (Ea E 27)), (2, .int v2), (3, .int v3), (4, .int v4)] dX5_isForbiddenMate_62 (Nat.le_of_ble_eq_true rfl) rfl rfl ?_
    refine sim_aload_n 1 dX5_isForbiddenMate_64 rfl rfl ?_
    refine sim_get (k := 27) (ci := 3) (j := 1) (v := .ref (Ea E 22)) (hL.1 27 rfl) rfl (by decide) fl_X5_13 rfl dX5_isForbiddenMate_65 rfl ?_
    refine sim_iload 0 dX5_isForbiddenMate_68 rfl rfl ?_
    refine sim_cVv (k := 22) (ci := 4) [.int x12] [] (c_X6_apply hL x12 w) (hL.1 22 rfl) rfl (by decide) rfl cb_X5_102 im_X6_apply se_X6_apply rfl rfl rfl (Nat.le_of_ble_eq_true rfl) dX5_isForbiddenMate_70 rfl (fun _ w13 => ?_)
    refine sim_aload_n 1 dX5_isForbiddenMate_73 rfl rfl ?_
    refine sim_get (k := 27) (ci := 3) (j := 1) (v := .ref (Ea E 22)) (hL.1 27 rfl) rfl (by decide) fl_X5_13 rfl dX5_isForbiddenMate_74 rfl ?_
    refine sim_iload_n 2 dX5_isForbiddenMate_77 rfl rfl ?_
    refine sim_cVi (k := 22) (ci := 4) [.int v2] [] (c_X6_inCheck hL v2 w13) (hL.1 22 rfl) rfl (by decide) rfl cb_X5_90 im_X6_inCheck se_X6_inCheck rfl rfl rfl (Nat.le_of_ble_eq_true rfl) dX5_isForbiddenMate_78 rfl (fun x14 w15 => ?_)
    refine sim_if_ne 88 dX5_isForbiddenMate_81 rfl rfl (fun _ => ?_) (fun _ => ?_)
    · refine sim_iconst (0 : Int32) dX5_isForbiddenMate_88 rfl rfl ?_
      exact sim_sub [1, 2, 3, 4, 0] rfl (sf_X5_isForbiddenMate_89 hL hR hK105 hK113 v2 v3 v4 x12 (0 : Int32) w15)
    · refine sim_iconst (1 : Int32) dX5_isForbiddenMate_84 rfl rfl ?_
      refine sim_goto (q := 89) dX5_isForbiddenMate_85 rfl ?_
      exact sim_sub [1, 2, 3, 4, 0] rfl (sf_X5_isForbiddenMate_89 hL hR hK105 hK113 v2 v3 v4 x12 (1 : Int32) w15)
def l_X5_isForbiddenMate_49 (N : Nat) (K105 : Wd → Option (Int32 × Wd)) (K113 : Wd → Option (Int32 × Wd)) (n : Nat) : Int32 → Int32 → Int32 → Wd → Option (Int32 × Wd) := itr (fun _ _ _ _ => none) (fun R => b_X5_isForbiddenMate_49 N R K105 K113) n
set_option maxRecDepth 20000 in
theorem sl_X5_isForbiddenMate_49 {E : Ev} (hL : LX E) {K105 : Wd → Option (Int32 × Wd)} (hK105 : ∀ (w : Wd), Sim E m_X5_isForbiddenMate rI 105 [] [] w (K105  w)) {K113 : Wd → Option (Int32 × Wd)} (hK113 : ∀ (w : Wd), Sim E m_X5_isForbiddenMate rI 113 [] [] w (K113  w)) : ∀ (n : Nat) (v2 : Int32) (v3 : Int32) (v4 : Int32) (w : Wd), Sim E m_X5_isForbiddenMate rI 49 [(0, .ref (Ea E 27)), (2, .int v2), (3, .int v3), (4, .int v4)] [] w (l_X5_isForbiddenMate_49 (En E) K105 K113 n v2 v3 v4 w) := by
  intro n
  induction n with
  | zero => intros; exact sim_none
  | succ n ih => intros; exact sb_X5_isForbiddenMate_49 hL (R := l_X5_isForbiddenMate_49 (En E) K105 K113 n) ih hK105 hK113 _ _ _ _
def f_X5_isForbiddenMate_105 (N : Nat) (w : Wd) : Option (Int32 × Wd) :=
  if zb (0 : Int32) = true then some ((0 : Int32), w) else none
set_option maxRecDepth 20000 in
theorem sf_X5_isForbiddenMate_105 {E : Ev} (hL : LX E) (w : Wd) : Sim E m_X5_isForbiddenMate rI 105 [] [] w (f_X5_isForbiddenMate_105 (En E) w) := by
  unfold f_X5_isForbiddenMate_105
  refine sim_iconst (0 : Int32) dX5_isForbiddenMate_105 rfl rfl ?_
  exact sim_zret rfl dX5_isForbiddenMate_106
def f_X5_isForbiddenMate_113 (N : Nat) (w : Wd) : Option (Int32 × Wd) :=
  if zb (1 : Int32) = true then some ((1 : Int32), w) else none
set_option maxRecDepth 20000 in
theorem sf_X5_isForbiddenMate_113 {E : Ev} (hL : LX E) (w : Wd) : Sim E m_X5_isForbiddenMate rI 113 [] [] w (f_X5_isForbiddenMate_113 (En E) w) := by
  unfold f_X5_isForbiddenMate_113
  refine sim_iconst (1 : Int32) dX5_isForbiddenMate_113 rfl rfl ?_
  exact sim_zret rfl dX5_isForbiddenMate_114
def f_X5_isForbiddenMate (N : Nat) (v1 : Int32) (w : Wd) : Option (Int32 × Wd) :=
  lt (w.1 22 7) fun x1 =>
  bd (f_X3_isSetting v1 w) fun x2 w3 =>
  if x2 = (0 : Int32) then
  f_X5_isForbiddenMate_34 N w3
  else
  bd (f_X5_hasSecondMark N v1 w3) fun x4 w5 =>
  if x4 = (0 : Int32) then
  f_X5_isForbiddenMate_34 N w5
  else
  bd (f_X6_inCheck N x1 w5) fun x6 w7 =>
  if x6 = (0 : Int32) then
  f_X5_isForbiddenMate_34 N w7
  else
  bd (f_X5_fill N (0 : Int32) w7) fun x8 w9 =>
  bd (f_X5_startOf N (0 : Int32) w9) fun x10 w11 =>
  l_X5_isForbiddenMate_49 N (f_X5_isForbiddenMate_105 N) (f_X5_isForbiddenMate_113 N) FU x1 x8 x10 w11
set_option maxRecDepth 20000 in
theorem c_X5_isForbiddenMate {E : Ev} (hL : LX E) (v1 : Int32) (w : Wd) : Ct E m_X5_isForbiddenMate yX5_isForbiddenMate rI [.ref (Ea E 27), .int v1] w (f_X5_isForbiddenMate (En E) v1 w) := by
  refine Ct.of (by decide) ⟨rfl, rfl⟩ (Nat.le_of_ble_eq_true rfl) ?_
  show Sim E m_X5_isForbiddenMate rI 0 [(0, .ref (Ea E 27)), (1, .int v1)] [] w (f_X5_isForbiddenMate (En E) v1 w)
  unfold f_X5_isForbiddenMate
  refine sim_aload_n 0 dX5_isForbiddenMate_0 rfl rfl ?_
  refine sim_get (k := 27) (ci := 3) (j := 1) (v := .ref (Ea E 22)) (hL.1 27 rfl) rfl (by decide) fl_X5_13 rfl dX5_isForbiddenMate_1 rfl ?_
  refine sim_get (k := 22) (ci := 4) (j := 7) (v := .int (w.1 22 7)) (hL.1 22 rfl) rfl (by decide) fl_X5_30 rfl dX5_isForbiddenMate_4 rfl ?_
  refine sim_lt (fun x1 => ?_)
  refine sim_istore_n [(2, .int x1), (0, .ref (Ea E 27)), (1, .int v1)] dX5_isForbiddenMate_7 (Nat.le_of_ble_eq_true rfl) rfl rfl ?_
  refine sim_iload_n 2 dX5_isForbiddenMate_8 rfl rfl ?_
  refine sim_cSi [.int v1] [] (c_X3_isSetting v1 w) cb_X5_96 sx_X3_isSetting rfl rfl rfl (Nat.le_of_ble_eq_true rfl) dX5_isForbiddenMate_9 rfl (fun x2 w3 => ?_)
  refine sim_if_eq 34 dX5_isForbiddenMate_12 rfl rfl (fun _ => ?_) (fun _ => ?_)
  · exact sim_sub [] rfl (sf_X5_isForbiddenMate_34 hL w3)
  · refine sim_aload_n 1 dX5_isForbiddenMate_15 rfl rfl ?_
    refine sim_iload_n 2 dX5_isForbiddenMate_16 rfl rfl ?_
    refine sim_cVi (k := 27) (ci := 3) [.int v1] [] (c_X5_hasSecondMark hL v1 w3) (hL.1 27 rfl) rfl (by decide) rfl cb_X5_99 im_X5_hasSecondMark se_X5_hasSecondMark rfl rfl rfl (Nat.le_of_ble_eq_true rfl) dX5_isForbiddenMate_17 rfl (fun x4 w5 => ?_)
    refine sim_if_eq 34 dX5_isForbiddenMate_20 rfl rfl (fun _ => ?_) (fun _ => ?_)
    · exact sim_sub [] rfl (sf_X5_isForbiddenMate_34 hL w5)
    · refine sim_aload_n 1 dX5_isForbiddenMate_23 rfl rfl ?_
      refine sim_get (k := 27) (ci := 3) (j := 1) (v := .ref (Ea E 22)) (hL.1 27 rfl) rfl (by decide) fl_X5_13 rfl dX5_isForbiddenMate_24 rfl ?_
      refine sim_iload_n 0 dX5_isForbiddenMate_27 rfl rfl ?_
      refine sim_cVi (k := 22) (ci := 4) [.int x1] [] (c_X6_inCheck hL x1 w5) (hL.1 22 rfl) rfl (by decide) rfl cb_X5_90 im_X6_inCheck se_X6_inCheck rfl rfl rfl (Nat.le_of_ble_eq_true rfl) dX5_isForbiddenMate_28 rfl (fun x6 w7 => ?_)
      refine sim_if_ne 36 dX5_isForbiddenMate_31 rfl rfl (fun _ => ?_) (fun _ => ?_)
      · refine sim_aload_n 1 dX5_isForbiddenMate_36 rfl rfl ?_
        refine sim_iconst (0 : Int32) dX5_isForbiddenMate_37 rfl rfl ?_
        refine sim_cVi (k := 27) (ci := 3) [.int (0 : Int32)] [] (c_X5_fill hL (0 : Int32) w7) (hL.1 27 rfl) rfl (by decide) rfl cb_X5_93 im_X5_fill se_X5_fill rfl rfl rfl (Nat.le_of_ble_eq_true rfl) dX5_isForbiddenMate_38 rfl (fun x8 w9 => ?_)
        refine sim_istore_n [(3, .int x8), (2, .int x1), (0, .ref (Ea E 27)), (1, .int v1)] dX5_isForbiddenMate_41 (Nat.le_of_ble_eq_true rfl) rfl rfl ?_
        refine sim_aload_n 2 dX5_isForbiddenMate_42 rfl rfl ?_
        refine sim_iconst (0 : Int32) dX5_isForbiddenMate_43 rfl rfl ?_
        refine sim_cVi (k := 27) (ci := 3) [.int (0 : Int32)] [] (c_X5_startOf hL (0 : Int32) w9) (hL.1 27 rfl) rfl (by decide) rfl cb_X5_112 im_X5_startOf se_X5_startOf rfl rfl rfl (Nat.le_of_ble_eq_true rfl) dX5_isForbiddenMate_44 rfl (fun x10 w11 => ?_)
        refine sim_istore [(4, .int x10), (3, .int x8), (2, .int x1), (0, .ref (Ea E 27)), (1, .int v1)] dX5_isForbiddenMate_47 (Nat.le_of_ble_eq_true rfl) rfl rfl ?_
        exact sim_sub [3, 2, 1, 0] rfl (sl_X5_isForbiddenMate_49 hL (sf_X5_isForbiddenMate_105 hL) (sf_X5_isForbiddenMate_113 hL) FU x1 x8 x10 w11)
      · exact sim_sub [] rfl (sf_X5_isForbiddenMate_34 hL w7)
def f_X5_holds_32 (N : Nat) (s0 : Int32) (w : Wd) : Option (Int32 × Wd) :=
  if zb s0 = true then some (s0, w) else none
set_option maxRecDepth 20000 in
theorem sf_X5_holds_32 {E : Ev} (hL : LX E) (s0 : Int32) (w : Wd) : Sim E m_X5_holds rI 32 [] [.int s0] w (f_X5_holds_32 (En E) s0 w) := by
  unfold f_X5_holds_32
  exact sim_zret rfl dX5_holds_32
def f_X5_holds_31 (N : Nat) (w : Wd) : Option (Int32 × Wd) :=
  f_X5_holds_32 N (0 : Int32) w
set_option maxRecDepth 20000 in
theorem sf_X5_holds_31 {E : Ev} (hL : LX E) (w : Wd) : Sim E m_X5_holds rI 31 [] [] w (f_X5_holds_31 (En E) w) := by
  unfold f_X5_holds_31
  refine sim_iconst (0 : Int32) dX5_holds_31 rfl rfl ?_
  exact sim_sub [] rfl (sf_X5_holds_32 hL (0 : Int32) w)
def f_X5_holds (N : Nat) (v1 : Int32) (w : Wd) : Option (Int32 × Wd) :=
  bd (f_X6_inCheck N ((1 : Int32) - (w.1 22 7)) w) fun x1 w2 =>
  if x1 = (0 : Int32) then
  bd (f_X5_isForbiddenMate N v1 w2) fun x3 w4 =>
  if x3 = (0 : Int32) then
  f_X5_holds_32 N (1 : Int32) w4
  else
  f_X5_holds_31 N w4
  else
  f_X5_holds_31 N w2
set_option maxRecDepth 20000 in
theorem c_X5_holds {E : Ev} (hL : LX E) (v1 : Int32) (w : Wd) : Ct E m_X5_holds yX5_holds rI [.ref (Ea E 27), .int v1] w (f_X5_holds (En E) v1 w) := by
  refine Ct.of (by decide) ⟨rfl, rfl⟩ (Nat.le_of_ble_eq_true rfl) ?_
  show Sim E m_X5_holds rI 0 [(0, .ref (Ea E 27)), (1, .int v1)] [] w (f_X5_holds (En E) v1 w)
  unfold f_X5_holds
  refine sim_aload_n 0 dX5_holds_0 rfl rfl ?_
  refine sim_get (k := 27) (ci := 3) (j := 1) (v := .ref (Ea E 22)) (hL.1 27 rfl) rfl (by decide) fl_X5_13 rfl dX5_holds_1 rfl ?_
  refine sim_iconst (1 : Int32) dX5_holds_4 rfl rfl ?_
  refine sim_aload_n 0 dX5_holds_5 rfl rfl ?_
  refine sim_get (k := 27) (ci := 3) (j := 1) (v := .ref (Ea E 22)) (hL.1 27 rfl) rfl (by decide) fl_X5_13 rfl dX5_holds_6 rfl ?_
  refine sim_get (k := 22) (ci := 4) (j := 7) (v := .int (w.1 22 7)) (hL.1 22 rfl) rfl (by decide) fl_X5_30 rfl dX5_holds_9 rfl ?_
  refine sim_isub dX5_holds_12 rfl ?_
  refine sim_cVi (k := 22) (ci := 4) [.int ((1 : Int32) - (w.1 22 7))] [] (c_X6_inCheck hL ((1 : Int32) - (w.1 22 7)) w) (hL.1 22 rfl) rfl (by decide) rfl cb_X5_90 im_X6_inCheck se_X6_inCheck rfl rfl rfl (Nat.le_of_ble_eq_true rfl) dX5_holds_13 rfl (fun x1 w2 => ?_)
  refine sim_if_ne 31 dX5_holds_16 rfl rfl (fun _ => ?_) (fun _ => ?_)
  · exact sim_sub [] rfl (sf_X5_holds_31 hL w2)
  · refine sim_aload_n 0 dX5_holds_19 rfl rfl ?_
    refine sim_iload_n 1 dX5_holds_20 rfl rfl ?_
    refine sim_cVi (k := 27) (ci := 3) [.int v1] [] (c_X5_isForbiddenMate hL v1 w2) (hL.1 27 rfl) rfl (by decide) rfl cb_X5_106 im_X5_isForbiddenMate se_X5_isForbiddenMate rfl rfl rfl (Nat.le_of_ble_eq_true rfl) dX5_holds_21 rfl (fun x3 w4 => ?_)
    refine sim_if_ne 31 dX5_holds_24 rfl rfl (fun _ => ?_) (fun _ => ?_)
    · exact sim_sub [] rfl (sf_X5_holds_31 hL w4)
    · refine sim_iconst (1 : Int32) dX5_holds_27 rfl rfl ?_
      refine sim_goto (q := 32) dX5_holds_28 rfl ?_
      exact sim_sub [] rfl (sf_X5_holds_32 hL (1 : Int32) w4)
def f_X0_addNode (N : Nat) (v1 : Int32) (v2 : Int32) (w : Wd) : Option (Int32 × Wd) :=
  if (w.1 29 7) < (w.1 29 6) then
  lw (wdI w 29 7 ((w.1 29 7) + (1 : Int32))) fun w1 =>
  if inb (w1.1 29 5) 1000 = true then
  lw (wdI w1 30 (Int32.toNatClampNeg (w1.1 29 5)) (v1 &&& (65535 : Int32))) fun w2 =>
  if inb (w2.1 29 5) 1000 = true then
  lw (wdI w2 31 (Int32.toNatClampNeg (w2.1 29 5)) v2) fun w3 =>
  lw (wdI w3 29 5 ((w3.1 29 5) + (1 : Int32))) fun w4 =>
  some ((w3.1 29 5), w4)
  else none
  else none
  else
  lw (wdI w 29 8 (1 : Int32)) fun w5 =>
  some ((-1 : Int32), w5)
set_option maxRecDepth 20000 in
theorem c_X0_addNode {E : Ev} (hL : LX E) (v1 : Int32) (v2 : Int32) (w : Wd) : Ct E m_X0_addNode yX0_addNode rI [.ref (Ea E 29), .int v1, .int v2] w (f_X0_addNode (En E) v1 v2 w) := by
  refine Ct.of (by decide) ⟨rfl, rfl⟩ (Nat.le_of_ble_eq_true rfl) ?_
  show Sim E m_X0_addNode rI 0 [(0, .ref (Ea E 29)), (1, .int v1), (2, .int v2)] [] w (f_X0_addNode (En E) v1 v2 w)
  unfold f_X0_addNode
  refine sim_aload_n 0 dX0_addNode_0 rfl rfl ?_
  refine sim_get (k := 29) (ci := 0) (j := 7) (v := .int (w.1 29 7)) (hL.1 29 rfl) rfl (by decide) fl_X0_36 rfl dX0_addNode_1 rfl ?_
  refine sim_aload_n 0 dX0_addNode_4 rfl rfl ?_
  refine sim_get (k := 29) (ci := 0) (j := 6) (v := .int (w.1 29 6)) (hL.1 29 rfl) rfl (by decide) fl_X0_21 rfl dX0_addNode_5 rfl ?_
  refine sim_icmp_lt 18 dX0_addNode_8 rfl rfl (fun _ => ?_) (fun _ => ?_)
  · refine sim_aload_n 0 dX0_addNode_18 rfl rfl ?_
    refine sim_dup dX0_addNode_19 rfl rfl ?_
    refine sim_get (k := 29) (ci := 0) (j := 7) (v := .int (w.1 29 7)) (hL.1 29 rfl) rfl (by decide) fl_X0_36 rfl dX0_addNode_20 rfl ?_
    refine sim_iconst (1 : Int32) dX0_addNode_23 rfl rfl ?_
    refine sim_iadd dX0_addNode_24 rfl ?_
    refine sim_put (k := 29) (ci := 0) (j := 7) (hL.1 29 rfl) rfl (by decide) fp_X0_36 rfl rfl (st_29_7 _ _ _) (Nat.le_of_ble_eq_true rfl) dX0_addNode_25 rfl ?_
    refine sim_lw (fun w1 => ?_)
    refine sim_aload_n 0 dX0_addNode_28 rfl rfl ?_
    refine sim_get (k := 29) (ci := 0) (j := 2) (v := .ref (Ea E 30)) (hL.1 29 rfl) rfl (by decide) fl_X0_9 rfl dX0_addNode_29 rfl ?_
    refine sim_aload_n 0 dX0_addNode_32 rfl rfl ?_
    refine sim_get (k := 29) (ci := 0) (j := 5) (v := .int (w1.1 29 5)) (hL.1 29 rfl) rfl (by decide) fl_X0_33 rfl dX0_addNode_33 rfl ?_
    refine sim_iload_n 1 dX0_addNode_36 rfl rfl ?_
    refine sim_ldc (65535 : Int32) dX0_addNode_37 k_X0_88 rfl ?_
    refine sim_iand dX0_addNode_39 rfl ?_
    refine sim_iastore (k := 30) (hL.1 30 rfl) rfl rfl dX0_addNode_40 rfl ?_
    refine sim_lw (fun w2 => ?_)
    refine sim_aload_n 0 dX0_addNode_41 rfl rfl ?_
    refine sim_get (k := 29) (ci := 0) (j := 3) (v := .ref (Ea E 31)) (hL.1 29 rfl) rfl (by decide) fl_X0_15 rfl dX0_addNode_42 rfl ?_
    refine sim_aload_n 0 dX0_addNode_45 rfl rfl ?_
    refine sim_get (k := 29) (ci := 0) (j := 5) (v := .int (w2.1 29 5)) (hL.1 29 rfl) rfl (by decide) fl_X0_33 rfl dX0_addNode_46 rfl ?_
    refine sim_iload_n 2 dX0_addNode_49 rfl rfl ?_
    refine sim_iastore (k := 31) (hL.1 31 rfl) rfl rfl dX0_addNode_50 rfl ?_
    refine sim_lw (fun w3 => ?_)
    refine sim_aload_n 0 dX0_addNode_51 rfl rfl ?_
    refine sim_dup dX0_addNode_52 rfl rfl ?_
    refine sim_get (k := 29) (ci := 0) (j := 5) (v := .int (w3.1 29 5)) (hL.1 29 rfl) rfl (by decide) fl_X0_33 rfl dX0_addNode_53 rfl ?_
    refine sim_dup_x1 dX0_addNode_56 rfl rfl rfl ?_
    refine sim_iconst (1 : Int32) dX0_addNode_57 rfl rfl ?_
    refine sim_iadd dX0_addNode_58 rfl ?_
    refine sim_put (k := 29) (ci := 0) (j := 5) (hL.1 29 rfl) rfl (by decide) fp_X0_33 rfl rfl (st_29_5 _ _ _) (Nat.le_of_ble_eq_true rfl) dX0_addNode_59 rfl ?_
    refine sim_lw (fun w4 => ?_)
    exact sim_iret rfl dX0_addNode_62
  · refine sim_aload_n 0 dX0_addNode_11 rfl rfl ?_
    refine sim_iconst (1 : Int32) dX0_addNode_12 rfl rfl ?_
    refine sim_put (k := 29) (ci := 0) (j := 8) (hL.1 29 rfl) rfl (by decide) fp_X0_39 rfl rfl (st_29_8 _ _ _) (Nat.le_of_ble_eq_true rfl) dX0_addNode_13 rfl ?_
    refine sim_lw (fun w5 => ?_)
    refine sim_iconst (-1 : Int32) dX0_addNode_16 rfl rfl ?_
    exact sim_iret rfl dX0_addNode_17
def f_X0_answersGo_144 (N : Nat) (Q : Int32 → Int32 → Int32 → Wd → Option (Int32 × Wd)) (R : Int32 → Int32 → Int32 → Int32 → Int32 → Int32 → Wd → Option (Int32 × Wd)) (K159 : Int32 → Int32 → Wd → Option (Int32 × Wd)) (v1 : Int32) (v4 : Int32) (v5 : Int32) (v6 : Int32) (v7 : Int32) (v8 : Int32) (v9 : Int32) (w : Wd) : Option (Int32 × Wd) :=
  bd (f_X6_revert N v9 w) fun _ w11 =>
  R v1 v4 v5 v6 v7 (v8 + (1 : Int32)) w11
set_option maxRecDepth 20000 in
theorem sf_X0_answersGo_144 {E : Ev} (hL : LX E) {d dq : Nat} (hB : BASE_X0_answersGo ≤ d) (hq : dq + 1 ≤ d) {Q : Int32 → Int32 → Int32 → Wd → Option (Int32 × Wd)} (hQ : ∀ (v1 v2 v3 : Int32) (w : Wd), Ct E (m_X0_hunterGoes dq) yX0_hunterGoes rI [.ref (Ea E 29), .int v1, .int v2, .int v3] w (Q v1 v2 v3 w)) {R : Int32 → Int32 → Int32 → Int32 → Int32 → Int32 → Wd → Option (Int32 × Wd)} (hR : ∀ (v1 : Int32) (v4 : Int32) (v5 : Int32) (v6 : Int32) (v7 : Int32) (v8 : Int32) (w : Wd), Sim E (m_X0_answersGo d) rI 40 [(0, .ref (Ea E 29)), (1, .int v1), (4, .int v4), (5, .int v5), (6, .int v6), (7, .int v7), (8, .int v8)] [] w (R v1 v4 v5 v6 v7 v8 w)) {K159 : Int32 → Int32 → Wd → Option (Int32 × Wd)} (hK159 : ∀ (v5 : Int32) (v7 : Int32) (w : Wd), Sim E (m_X0_answersGo d) rI 159 [(0, .ref (Ea E 29)), (5, .int v5), (7, .int v7)] [] w (K159 v5 v7 w)) (v1 : Int32) (v4 : Int32) (v5 : Int32) (v6 : Int32) (v7 : Int32) (v8 : Int32) (v9 : Int32) (w : Wd) : Sim E (m_X0_answersGo d) rI 144 [(0, .ref (Ea E 29)), (1, .int v1), (4, .int v4), (5, .int v5), (6, .int v6), (7, .int v7), (8, .int v8), (9, .int v9)] [] w (f_X0_answersGo_144 (En E) Q R K159 v1 v4 v5 v6 v7 v8 v9 w) := by
  unfold f_X0_answersGo_144
  refine sim_aload_n 0 dX0_answersGo_144 rfl rfl ?_
  refine sim_get (k := 29) (ci := 0) (j := 1) (v := .ref (Ea E 22)) (hL.1 29 rfl) rfl (by decide) fl_X0_29 rfl dX0_answersGo_145 rfl ?_
  refine sim_iload 7 dX0_answersGo_148 rfl rfl ?_
  refine sim_cVv (k := 22) (ci := 4) [.int v9] [] (c_X6_revert hL v9 w) (hL.1 22 rfl) rfl (by decide) rfl cb_X0_75 im_X6_revert se_X6_revert rfl (DD_le hB rfl rfl) rfl (Nat.le_of_ble_eq_true rfl) dX0_answersGo_150 rfl (fun _ w11 => ?_)
  refine sim_iinc (v8 + (1 : Int32)) 6 [(8, .int (v8 + (1 : Int32))), (0, .ref (Ea E 29)), (1, .int v1), (4, .int v4), (5, .int v5), (6, .int v6), (7, .int v7), (9, .int v9)] dX0_answersGo_153 rfl rfl (Nat.le_of_ble_eq_true rfl) rfl rfl ?_
  refine sim_goto (q := 40) dX0_answersGo_156 rfl ?_
  exact sim_sub [1, 2, 3, 4, 5, 6, 0] rfl (hR v1 v4 v5 v6 v7 (v8 + (1 : Int32)) w11)
def f_X0_answersGo_121 (N : Nat) (Q : Int32 → Int32 → Int32 → Wd → Option (Int32 × Wd)) (R : Int32 → Int32 → Int32 → Int32 → Int32 → Int32 → Wd → Option (Int32 × Wd)) (K159 : Int32 → Int32 → Wd → Option (Int32 × Wd)) (v1 : Int32) (v4 : Int32) (v5 : Int32) (v6 : Int32) (v8 : Int32) (v9 : Int32) (v10 : Int32) (s0 : Int32) (w : Wd) : Option (Int32 × Wd) :=
  if s0 = (0 : Int32) then
  f_X0_answersGo_144 N Q R K159 v1 v4 v5 v6 s0 v8 v9 w
  else
  if inb v10 1000 = true then
  lw (wdI w 32 (Int32.toNatClampNeg v10) (((w.1 29 5) - v10) - (1 : Int32))) fun w14 =>
  f_X0_answersGo_144 N Q R K159 v1 v4 v5 v6 s0 v8 v9 w14
  else none
set_option maxRecDepth 20000 in
theorem sf_X0_answersGo_121 {E : Ev} (hL : LX E) {d dq : Nat} (hB : BASE_X0_answersGo ≤ d) (hq : dq + 1 ≤ d) {Q : Int32 → Int32 → Int32 → Wd → Option (Int32 × Wd)} (hQ : ∀ (v1 v2 v3 : Int32) (w : Wd), Ct E (m_X0_hunterGoes dq) yX0_hunterGoes rI [.ref (Ea E 29), .int v1, .int v2, .int v3] w (Q v1 v2 v3 w)) {R : Int32 → Int32 → Int32 → Int32 → Int32 → Int32 → Wd → Option (Int32 × Wd)} (hR : ∀ (v1 : Int32) (v4 : Int32) (v5 : Int32) (v6 : Int32) (v7 : Int32) (v8 : Int32) (w : Wd), Sim E (m_X0_answersGo d) rI 40 [(0, .ref (Ea E 29)), (1, .int v1), (4, .int v4), (5, .int v5), (6, .int v6), (7, .int v7), (8, .int v8)] [] w (R v1 v4 v5 v6 v7 v8 w)) {K159 : Int32 → Int32 → Wd → Option (Int32 × Wd)} (hK159 : ∀ (v5 : Int32) (v7 : Int32) (w : Wd), Sim E (m_X0_answersGo d) rI 159 [(0, .ref (Ea E 29)), (5, .int v5), (7, .int v7)] [] w (K159 v5 v7 w)) (v1 : Int32) (v4 : Int32) (v5 : Int32) (v6 : Int32) (v8 : Int32) (v9 : Int32) (v10 : Int32) (s0 : Int32) (w : Wd) : Sim E (m_X0_answersGo d) rI 121 [(0, .ref (Ea E 29)), (1, .int v1), (4, .int v4), (5, .int v5), (6, .int v6), (8, .int v8), (9, .int v9), (10, .int v10)] [.int s0] w (f_X0_answersGo_121 (En E) Q R K159 v1 v4 v5 v6 v8 v9 v10 s0 w) := by
  unfold f_X0_answersGo_121
  refine sim_istore [(7, .int s0), (0, .ref (Ea E 29)), (1, .int v1), (4, .int v4), (5, .int v5), (6, .int v6), (8, .int v8), (9, .int v9), (10, .int v10)] dX0_answersGo_121 (Nat.le_of_ble_eq_true rfl) rfl rfl ?_
  refine sim_iload 0 dX0_answersGo_123 rfl rfl ?_
  refine sim_if_eq 144 dX0_answersGo_125 rfl rfl (fun _ => ?_) (fun _ => ?_)
  · exact sim_sub [1, 2, 3, 4, 5, 0, 6, 7] rfl (sf_X0_answersGo_144 hL hB hq hQ hR hK159 v1 v4 v5 v6 s0 v8 v9 w)
  · refine sim_aload_n 1 dX0_answersGo_128 rfl rfl ?_
    refine sim_get (k := 29) (ci := 0) (j := 4) (v := .ref (Ea E 32)) (hL.1 29 rfl) rfl (by decide) fl_X0_18 rfl dX0_answersGo_129 rfl ?_
    refine sim_iload 8 dX0_answersGo_132 rfl rfl ?_
    refine sim_aload_n 1 dX0_answersGo_134 rfl rfl ?_
    refine sim_get (k := 29) (ci := 0) (j := 5) (v := .int (w.1 29 5)) (hL.1 29 rfl) rfl (by decide) fl_X0_33 rfl dX0_answersGo_135 rfl ?_
    refine sim_iload 8 dX0_answersGo_138 rfl rfl ?_
    refine sim_isub dX0_answersGo_140 rfl ?_
    refine sim_iconst (1 : Int32) dX0_answersGo_141 rfl rfl ?_
    refine sim_isub dX0_answersGo_142 rfl ?_
    refine sim_iastore (k := 32) (hL.1 32 rfl) rfl rfl dX0_answersGo_143 rfl ?_
    refine sim_lw (fun w14 => ?_)
    exact sim_sub [1, 2, 3, 4, 5, 0, 6, 7] rfl (sf_X0_answersGo_144 hL hB hq hQ hR hK159 v1 v4 v5 v6 s0 v8 v9 w14)
def f_X0_answersGo_120 (N : Nat) (Q : Int32 → Int32 → Int32 → Wd → Option (Int32 × Wd)) (R : Int32 → Int32 → Int32 → Int32 → Int32 → Int32 → Wd → Option (Int32 × Wd)) (K159 : Int32 → Int32 → Wd → Option (Int32 × Wd)) (v1 : Int32) (v4 : Int32) (v5 : Int32) (v6 : Int32) (v8 : Int32) (v9 : Int32) (v10 : Int32) (w : Wd) : Option (Int32 × Wd) :=
  f_X0_answersGo_121 N Q R K159 v1 v4 v5 v6 v8 v9 v10 (0 : Int32) w
set_option maxRecDepth 20000 in
theorem sf_X0_answersGo_120 {E : Ev} (hL : LX E) {d dq : Nat} (hB : BASE_X0_answersGo ≤ d) (hq : dq + 1 ≤ d) {Q : Int32 → Int32 → Int32 → Wd → Option (Int32 × Wd)} (hQ : ∀ (v1 v2 v3 : Int32) (w : Wd), Ct E (m_X0_hunterGoes dq) yX0_hunterGoes rI [.ref (Ea E 29), .int v1, .int v2, .int v3] w (Q v1 v2 v3 w)) {R : Int32 → Int32 → Int32 → Int32 → Int32 → Int32 → Wd → Option (Int32 × Wd)} (hR : ∀ (v1 : Int32) (v4 : Int32) (v5 : Int32) (v6 : Int32) (v7 : Int32) (v8 : Int32) (w : Wd), Sim E (m_X0_answersGo d) rI 40 [(0, .ref (Ea E 29)), (1, .int v1), (4, .int v4), (5, .int v5), (6, .int v6), (7, .int v7), (8, .int v8)] [] w (R v1 v4 v5 v6 v7 v8 w)) {K159 : Int32 → Int32 → Wd → Option (Int32 × Wd)} (hK159 : ∀ (v5 : Int32) (v7 : Int32) (w : Wd), Sim E (m_X0_answersGo d) rI 159 [(0, .ref (Ea E 29)), (5, .int v5), (7, .int v7)] [] w (K159 v5 v7 w)) (v1 : Int32) (v4 : Int32) (v5 : Int32) (v6 : Int32) (v8 : Int32) (v9 : Int32) (v10 : Int32) (w : Wd) : Sim E (m_X0_answersGo d) rI 120 [(0, .ref (Ea E 29)), (1, .int v1), (4, .int v4), (5, .int v5), (6, .int v6), (8, .int v8), (9, .int v9), (10, .int v10)] [] w (f_X0_answersGo_120 (En E) Q R K159 v1 v4 v5 v6 v8 v9 v10 w) := by
  unfold f_X0_answersGo_120
  refine sim_iconst (0 : Int32) dX0_answersGo_120 rfl rfl ?_
  exact sim_sub [0, 1, 2, 3, 4, 5, 6, 7] rfl (sf_X0_answersGo_121 hL hB hq hQ hR hK159 v1 v4 v5 v6 v8 v9 v10 (0 : Int32) w)
def b_X0_answersGo_40 (N : Nat) (Q : Int32 → Int32 → Int32 → Wd → Option (Int32 × Wd)) (R : Int32 → Int32 → Int32 → Int32 → Int32 → Int32 → Wd → Option (Int32 × Wd)) (K159 : Int32 → Int32 → Wd → Option (Int32 × Wd)) (v1 : Int32) (v4 : Int32) (v5 : Int32) (v6 : Int32) (v7 : Int32) (v8 : Int32) (w : Wd) : Option (Int32 × Wd) :=
  if v6 ≤ v8 then
  K159 v5 v7 w
  else
  if v7 = (0 : Int32) then
  K159 v5 v7 w
  else
  if inb v8 (270 * (N * N)) = true then
  lt (w.1 28 (Int32.toNatClampNeg v8)) fun x7 =>
  bd (f_X6_apply N x7 w) fun _ w8 =>
  bd (f_X5_holds N x7 w8) fun x9 w10 =>
  if x9 = (0 : Int32) then
  f_X0_answersGo_144 N Q R K159 v1 v4 v5 v6 v7 v8 x7 w10
  else
  bd (f_X0_addNode N x7 v5 w10) fun x12 w13 =>
  if x12 < (0 : Int32) then
  f_X0_answersGo_120 N Q R K159 v1 v4 v5 v6 v8 x7 x12 w13
  else
  bd (Q (v1 - (1 : Int32)) x12 (v4 + (1 : Int32)) w13) fun x15 w16 =>
  if x15 = (0 : Int32) then
  f_X0_answersGo_120 N Q R K159 v1 v4 v5 v6 v8 x7 x12 w16
  else
  f_X0_answersGo_121 N Q R K159 v1 v4 v5 v6 v8 x7 x12 (1 : Int32) w16
  else none
set_option maxRecDepth 20000 in
theorem sb_X0_answersGo_40 {E : Ev} (hL : LX E) {d dq : Nat} (hB : BASE_X0_answersGo ≤ d) (hq : dq + 1 ≤ d) {Q : Int32 → Int32 → Int32 → Wd → Option (Int32 × Wd)} (hQ : ∀ (v1 v2 v3 : Int32) (w : Wd), Ct E (m_X0_hunterGoes dq) yX0_hunterGoes rI [.ref (Ea E 29), .int v1, .int v2, .int v3] w (Q v1 v2 v3 w)) {R : Int32 → Int32 → Int32 → Int32 → Int32 → Int32 → Wd → Option (Int32 × Wd)} (hR : ∀ (v1 : Int32) (v4 : Int32) (v5 : Int32) (v6 : Int32) (v7 : Int32) (v8 : Int32) (w : Wd), Sim E (m_X0_answersGo d) rI 40 [(0, .ref (Ea E 29)), (1, .int v1), (4, .int v4), (5, .int v5), (6, .int v6), (7, .int v7), (8, .int v8)] [] w (R v1 v4 v5 v6 v7 v8 w)) {K159 : Int32 → Int32 → Wd → Option (Int32 × Wd)} (hK159 : ∀ (v5 : Int32) (v7 : Int32) (w : Wd), Sim E (m_X0_answersGo d) rI 159 [(0, .ref (Ea E 29)), (5, .int v5), (7, .int v7)] [] w (K159 v5 v7 w)) (v1 : Int32) (v4 : Int32) (v5 : Int32) (v6 : Int32) (v7 : Int32) (v8 : Int32) (w : Wd) : Sim E (m_X0_answersGo d) rI 40 [(0, .ref (Ea E 29)), (1, .int v1), (4, .int v4), (5, .int v5), (6, .int v6), (7, .int v7), (8, .int v8)] [] w (b_X0_answersGo_40 (En E) Q R K159 v1 v4 v5 v6 v7 v8 w) := by
  unfold b_X0_answersGo_40
  refine sim_iload 6 dX0_answersGo_40 rfl rfl ?_
  refine sim_iload 4 dX0_answersGo_42 rfl rfl ?_
  refine sim_icmp_ge 159 dX0_answersGo_44 rfl rfl (fun _ => ?_) (fun _ => ?_)
  · exact sim_sub [0, 3, 5] rfl (hK159 v5 v7 w)
  · refine sim_iload 5 dX0_answersGo_47 rfl rfl ?_
    refine sim_if_eq 159 dX0_answersGo_49 rfl rfl (fun _ => ?_) (fun _ => ?_)
    · exact sim_sub [0, 3, 5] rfl (hK159 v5 v7 w)
    · refine sim_aload_n 0 dX0_answersGo_52 rfl rfl ?_
      refine sim_get (k := 29) (ci := 0) (j := 0) (v := .ref (Ea E 27)) (hL.1 29 rfl) rfl (by decide) fl_X0_25 rfl dX0_answersGo_53 rfl ?_
      refine sim_get (k := 27) (ci := 3) (j := 3) (v := .ref (Ea E 28)) (hL.1 27 rfl) rfl (by decide) fl_X0_52 rfl dX0_answersGo_56 rfl ?_
      refine sim_iload 6 dX0_answersGo_59 rfl rfl ?_
      refine sim_iaload (k := 28) (hL.1 28 rfl) rfl rfl dX0_answersGo_61 rfl ?_
      refine sim_lt (fun x7 => ?_)
      refine sim_istore [(9, .int x7), (0, .ref (Ea E 29)), (1, .int v1), (4, .int v4), (5, .int v5), (6, .int v6), (7, .int v7), (8, .int v8)] dX0_answersGo_62 (Nat.le_of_ble_eq_true rfl) rfl rfl ?_
      refine sim_aload_n 1 dX0_answersGo_64 rfl rfl ?_
      refine sim_get (k := 29) (ci := 0) (j := 1) (v := .ref (Ea E 22)) (hL.1 29 rfl) rfl (by decide) fl_X0_29 rfl dX0_answersGo_65 rfl ?_
      refine sim_iload 0 dX0_answersGo_68 rfl rfl ?_
      refine sim_cVv (k := 22) (ci := 4) [.int x7] [] (c_X6_apply hL x7 w) (hL.1 22 rfl) rfl (by decide) rfl cb_X0_55 im_X6_apply se_X6_apply rfl (DD_le hB rfl rfl) rfl (Nat.le_of_ble_eq_true rfl) dX0_answersGo_70 rfl (fun _ w8 => ?_)
      refine sim_aload_n 1 dX0_answersGo_73 rfl rfl ?_
      refine sim_get (k := 29) (ci := 0) (j := 0) (v := .ref (Ea E 27)) (hL.1 29 rfl) rfl (by decide) fl_X0_25 rfl dX0_answersGo_74 rfl ?_
      refine sim_iload 0 dX0_answersGo_77 rfl rfl ?_
      refine sim_cVi (k := 27) (ci := 3) [.int x7] [] (c_X5_holds hL x7 w8) (hL.1 27 rfl) rfl (by decide) rfl cb_X0_68 im_X5_holds se_X5_holds rfl (DD_le hB rfl rfl) rfl (Nat.le_of_ble_eq_true rfl) dX0_answersGo_79 rfl (fun x9 w10 => ?_)
      refine sim_if_eq 144 dX0_answersGo_82 rfl rfl (fun _ => ?_) (fun _ => ?_)
      · exact sim_sub [1, 2, 3, 4, 5, 6, 7, 0] rfl (sf_X0_answersGo_144 hL hB hq hQ hR hK159 v1 v4 v5 v6 v7 v8 x7 w10)
      · refine sim_aload_n 1 dX0_answersGo_85 rfl rfl ?_
        refine sim_iload 0 dX0_answersGo_86 rfl rfl ?_
        refine sim_iload 4 dX0_answersGo_88 rfl rfl ?_
        refine sim_cVi (k := 29) (ci := 0) [.int x7, .int v5] [] (c_X0_addNode hL x7 v5 w10) (hL.1 29 rfl) rfl (by decide) rfl cb_X0_78 im_X0_addNode se_X0_addNode rfl (DD_le hB rfl rfl) rfl (Nat.le_of_ble_eq_true rfl) dX0_answersGo_90 rfl (fun x12 w13 => ?_)
        refine sim_istore [(10, .int x12), (9, .int x7), (0, .ref (Ea E 29)), (1, .int v1), (4, .int v4), (5, .int v5), (6, .int v6), (7, .int v7), (8, .int v8)] dX0_answersGo_93 (Nat.le_of_ble_eq_true rfl) rfl rfl ?_
        refine sim_iload 0 dX0_answersGo_95 rfl rfl ?_
        refine sim_if_lt 120 dX0_answersGo_97 rfl rfl (fun _ => ?_) (fun _ => ?_)
        · exact sim_sub [2, 3, 4, 5, 6, 8, 1, 0] rfl (sf_X0_answersGo_120 hL hB hq hQ hR hK159 v1 v4 v5 v6 v8 x7 x12 w13)
        · refine sim_aload_n 2 dX0_answersGo_100 rfl rfl ?_
          refine sim_iload_n 3 dX0_answersGo_101 rfl rfl ?_
          refine sim_iconst (1 : Int32) dX0_answersGo_102 rfl rfl ?_
          refine sim_isub dX0_answersGo_103 rfl ?_
          refine sim_iload 0 dX0_answersGo_104 rfl rfl ?_
          refine sim_iload 4 dX0_answersGo_106 rfl rfl ?_
          refine sim_iconst (1 : Int32) dX0_answersGo_108 rfl rfl ?_
          refine sim_iadd dX0_answersGo_109 rfl ?_
          refine sim_cVi (k := 29) (ci := 0) [.int (v1 - (1 : Int32)), .int x12, .int (v4 + (1 : Int32))] [] (hQ (v1 - (1 : Int32)) x12 (v4 + (1 : Int32)) w13) (hL.1 29 rfl) rfl (by decide) rfl (cb_X0_82 _) im_X0_hunterGoes se_X0_hunterGoes rfl (DD_q hq rfl) rfl (Nat.le_of_ble_eq_true rfl) dX0_answersGo_110 rfl (fun x15 w16 => ?_)
          refine sim_if_eq 120 dX0_answersGo_113 rfl rfl (fun _ => ?_) (fun _ => ?_)
          · exact sim_sub [2, 3, 4, 5, 6, 8, 1, 0] rfl (sf_X0_answersGo_120 hL hB hq hQ hR hK159 v1 v4 v5 v6 v8 x7 x12 w16)
          · refine sim_iconst (1 : Int32) dX0_answersGo_116 rfl rfl ?_
            refine sim_goto (q := 121) dX0_answersGo_117 rfl ?_
            exact sim_sub [2, 3, 4, 5, 6, 8, 1, 0] rfl (sf_X0_answersGo_121 hL hB hq hQ hR hK159 v1 v4 v5 v6 v8 x7 x12 (1 : Int32) w16)
def l_X0_answersGo_40 (N : Nat) (Q : Int32 → Int32 → Int32 → Wd → Option (Int32 × Wd)) (K159 : Int32 → Int32 → Wd → Option (Int32 × Wd)) (n : Nat) : Int32 → Int32 → Int32 → Int32 → Int32 → Int32 → Wd → Option (Int32 × Wd) := itr (fun _ _ _ _ _ _ _ => none) (fun R => b_X0_answersGo_40 N Q R K159) n
set_option maxRecDepth 20000 in
theorem sl_X0_answersGo_40 {E : Ev} (hL : LX E) {d dq : Nat} (hB : BASE_X0_answersGo ≤ d) (hq : dq + 1 ≤ d) {Q : Int32 → Int32 → Int32 → Wd → Option (Int32 × Wd)} (hQ : ∀ (v1 v2 v3 : Int32) (w : Wd), Ct E (m_X0_hunterGoes dq) yX0_hunterGoes rI [.ref (Ea E 29), .int v1, .int v2, .int v3] w (Q v1 v2 v3 w)) {K159 : Int32 → Int32 → Wd → Option (Int32 × Wd)} (hK159 : ∀ (v5 : Int32) (v7 : Int32) (w : Wd), Sim E (m_X0_answersGo d) rI 159 [(0, .ref (Ea E 29)), (5, .int v5), (7, .int v7)] [] w (K159 v5 v7 w)) : ∀ (n : Nat) (v1 : Int32) (v4 : Int32) (v5 : Int32) (v6 : Int32) (v7 : Int32) (v8 : Int32) (w : Wd), Sim E (m_X0_answersGo d) rI 40 [(0, .ref (Ea E 29)), (1, .int v1), (4, .int v4), (5, .int v5), (6, .int v6), (7, .int v7), (8, .int v8)] [] w (l_X0_answersGo_40 (En E) Q K159 n v1 v4 v5 v6 v7 v8 w) := by
  intro n
  induction n with
  | zero => intros; exact sim_none
  | succ n ih => intros; exact sb_X0_answersGo_40 hL hB hq hQ (R := l_X0_answersGo_40 (En E) Q K159 n) ih hK159 _ _ _ _ _ _ _
def f_X0_answersGo_189 (N : Nat) (Q : Int32 → Int32 → Int32 → Wd → Option (Int32 × Wd)) (v7 : Int32) (w : Wd) : Option (Int32 × Wd) :=
  if zb v7 = true then some (v7, w) else none
set_option maxRecDepth 20000 in
theorem sf_X0_answersGo_189 {E : Ev} (hL : LX E) {d dq : Nat} (hB : BASE_X0_answersGo ≤ d) (hq : dq + 1 ≤ d) {Q : Int32 → Int32 → Int32 → Wd → Option (Int32 × Wd)} (hQ : ∀ (v1 v2 v3 : Int32) (w : Wd), Ct E (m_X0_hunterGoes dq) yX0_hunterGoes rI [.ref (Ea E 29), .int v1, .int v2, .int v3] w (Q v1 v2 v3 w)) (v7 : Int32) (w : Wd) : Sim E (m_X0_answersGo d) rI 189 [(7, .int v7)] [] w (f_X0_answersGo_189 (En E) Q v7 w) := by
  unfold f_X0_answersGo_189
  refine sim_iload 0 dX0_answersGo_189 rfl rfl ?_
  exact sim_zret rfl dX0_answersGo_191
def f_X0_answersGo_159 (N : Nat) (Q : Int32 → Int32 → Int32 → Wd → Option (Int32 × Wd)) (v5 : Int32) (v7 : Int32) (w : Wd) : Option (Int32 × Wd) :=
  if v7 = (0 : Int32) then
  lw (wdI w 29 5 v5) fun w17 =>
  f_X0_answersGo_189 N Q v7 w17
  else
  if inb v5 1000 = true then
  lw (wdI w 32 (Int32.toNatClampNeg v5) (((w.1 29 5) - v5) - (1 : Int32))) fun w18 =>
  f_X0_answersGo_189 N Q v7 w18
  else none
set_option maxRecDepth 20000 in
theorem sf_X0_answersGo_159 {E : Ev} (hL : LX E) {d dq : Nat} (hB : BASE_X0_answersGo ≤ d) (hq : dq + 1 ≤ d) {Q : Int32 → Int32 → Int32 → Wd → Option (Int32 × Wd)} (hQ : ∀ (v1 v2 v3 : Int32) (w : Wd), Ct E (m_X0_hunterGoes dq) yX0_hunterGoes rI [.ref (Ea E 29), .int v1, .int v2, .int v3] w (Q v1 v2 v3 w)) (v5 : Int32) (v7 : Int32) (w : Wd) : Sim E (m_X0_answersGo d) rI 159 [(0, .ref (Ea E 29)), (5, .int v5), (7, .int v7)] [] w (f_X0_answersGo_159 (En E) Q v5 v7 w) := by
  unfold f_X0_answersGo_159
  refine sim_iload 2 dX0_answersGo_159 rfl rfl ?_
  refine sim_if_eq 183 dX0_answersGo_161 rfl rfl (fun _ => ?_) (fun _ => ?_)
  · refine sim_aload_n 0 dX0_answersGo_183 rfl rfl ?_
    refine sim_iload 1 dX0_answersGo_184 rfl rfl ?_
    refine sim_put (k := 29) (ci := 0) (j := 5) (hL.1 29 rfl) rfl (by decide) fp_X0_33 rfl rfl (st_29_5 _ _ _) (Nat.le_of_ble_eq_true rfl) dX0_answersGo_186 rfl ?_
    refine sim_lw (fun w17 => ?_)
    exact sim_sub [2] rfl (sf_X0_answersGo_189 hL hB hq hQ v7 w17)
  · refine sim_aload_n 0 dX0_answersGo_164 rfl rfl ?_
    refine sim_get (k := 29) (ci := 0) (j := 4) (v := .ref (Ea E 32)) (hL.1 29 rfl) rfl (by decide) fl_X0_18 rfl dX0_answersGo_165 rfl ?_
    refine sim_iload 1 dX0_answersGo_168 rfl rfl ?_
    refine sim_aload_n 0 dX0_answersGo_170 rfl rfl ?_
    refine sim_get (k := 29) (ci := 0) (j := 5) (v := .int (w.1 29 5)) (hL.1 29 rfl) rfl (by decide) fl_X0_33 rfl dX0_answersGo_171 rfl ?_
    refine sim_iload 1 dX0_answersGo_174 rfl rfl ?_
    refine sim_isub dX0_answersGo_176 rfl ?_
    refine sim_iconst (1 : Int32) dX0_answersGo_177 rfl rfl ?_
    refine sim_isub dX0_answersGo_178 rfl ?_
    refine sim_iastore (k := 32) (hL.1 32 rfl) rfl rfl dX0_answersGo_179 rfl ?_
    refine sim_lw (fun w18 => ?_)
    refine sim_goto (q := 189) dX0_answersGo_180 rfl ?_
    exact sim_sub [2] rfl (sf_X0_answersGo_189 hL hB hq hQ v7 w18)
def f_X0_answersGo (N : Nat) (Q : Int32 → Int32 → Int32 → Wd → Option (Int32 × Wd)) (v1 : Int32) (v2 : Int32) (v3 : Int32) (v4 : Int32) (w : Wd) : Option (Int32 × Wd) :=
  bd (f_X0_addNode N v2 v3 w) fun x1 w2 =>
  if (0 : Int32) ≤ x1 then
  bd (f_X5_fill N v4 w2) fun x3 w4 =>
  bd (f_X5_startOf N v4 w4) fun x5 w6 =>
  l_X0_answersGo_40 N Q (f_X0_answersGo_159 N Q) FU v1 v4 x1 x3 (1 : Int32) x5 w6
  else
  if zb (0 : Int32) = true then some ((0 : Int32), w2) else none
set_option maxRecDepth 20000 in
theorem c_X0_answersGo {E : Ev} (hL : LX E) {d dq : Nat} (hB : BASE_X0_answersGo ≤ d) (hq : dq + 1 ≤ d) {Q : Int32 → Int32 → Int32 → Wd → Option (Int32 × Wd)} (hQ : ∀ (v1 v2 v3 : Int32) (w : Wd), Ct E (m_X0_hunterGoes dq) yX0_hunterGoes rI [.ref (Ea E 29), .int v1, .int v2, .int v3] w (Q v1 v2 v3 w)) (v1 : Int32) (v2 : Int32) (v3 : Int32) (v4 : Int32) (w : Wd) : Ct E (m_X0_answersGo d) yX0_answersGo rI [.ref (Ea E 29), .int v1, .int v2, .int v3, .int v4] w (f_X0_answersGo (En E) Q v1 v2 v3 v4 w) := by
  refine Ct.of (by decide) ⟨rfl, rfl⟩ (Nat.le_of_ble_eq_true rfl) ?_
  show Sim E (m_X0_answersGo d) rI 0 [(0, .ref (Ea E 29)), (1, .int v1), (2, .int v2), (3, .int v3), (4, .int v4)] [] w (f_X0_answersGo (En E) Q v1 v2 v3 v4 w)
  unfold f_X0_answersGo
  refine sim_aload_n 0 dX0_answersGo_0 rfl rfl ?_
  refine sim_iload_n 2 dX0_answersGo_1 rfl rfl ?_
  refine sim_iload_n 3 dX0_answersGo_2 rfl rfl ?_
  refine sim_cVi (k := 29) (ci := 0) [.int v2, .int v3] [] (c_X0_addNode hL v2 v3 w) (hL.1 29 rfl) rfl (by decide) rfl cb_X0_78 im_X0_addNode se_X0_addNode rfl (DD_le hB rfl rfl) rfl (Nat.le_of_ble_eq_true rfl) dX0_answersGo_3 rfl (fun x1 w2 => ?_)
  refine sim_istore [(5, .int x1), (0, .ref (Ea E 29)), (1, .int v1), (2, .int v2), (3, .int v3), (4, .int v4)] dX0_answersGo_6 (Nat.le_of_ble_eq_true rfl) rfl rfl ?_
  refine sim_iload 0 dX0_answersGo_8 rfl rfl ?_
  refine sim_if_ge 15 dX0_answersGo_10 rfl rfl (fun _ => ?_) (fun _ => ?_)
  · refine sim_aload_n 1 dX0_answersGo_15 rfl rfl ?_
    refine sim_get (k := 29) (ci := 0) (j := 0) (v := .ref (Ea E 27)) (hL.1 29 rfl) rfl (by decide) fl_X0_25 rfl dX0_answersGo_16 rfl ?_
    refine sim_iload 5 dX0_answersGo_19 rfl rfl ?_
    refine sim_cVi (k := 27) (ci := 3) [.int v4] [] (c_X5_fill hL v4 w2) (hL.1 27 rfl) rfl (by decide) rfl cb_X0_45 im_X5_fill se_X5_fill rfl (DD_le hB rfl rfl) rfl (Nat.le_of_ble_eq_true rfl) dX0_answersGo_21 rfl (fun x3 w4 => ?_)
    refine sim_istore [(6, .int x3), (5, .int x1), (0, .ref (Ea E 29)), (1, .int v1), (2, .int v2), (3, .int v3), (4, .int v4)] dX0_answersGo_24 (Nat.le_of_ble_eq_true rfl) rfl rfl ?_
    refine sim_iconst (1 : Int32) dX0_answersGo_26 rfl rfl ?_
    refine sim_istore [(7, .int (1 : Int32)), (6, .int x3), (5, .int x1), (0, .ref (Ea E 29)), (1, .int v1), (2, .int v2), (3, .int v3), (4, .int v4)] dX0_answersGo_27 (Nat.le_of_ble_eq_true rfl) rfl rfl ?_
    refine sim_aload_n 3 dX0_answersGo_29 rfl rfl ?_
    refine sim_get (k := 29) (ci := 0) (j := 0) (v := .ref (Ea E 27)) (hL.1 29 rfl) rfl (by decide) fl_X0_25 rfl dX0_answersGo_30 rfl ?_
    refine sim_iload 7 dX0_answersGo_33 rfl rfl ?_
    refine sim_cVi (k := 27) (ci := 3) [.int v4] [] (c_X5_startOf hL v4 w4) (hL.1 27 rfl) rfl (by decide) rfl cb_X0_49 im_X5_startOf se_X5_startOf rfl (DD_le hB rfl rfl) rfl (Nat.le_of_ble_eq_true rfl) dX0_answersGo_35 rfl (fun x5 w6 => ?_)
    refine sim_istore [(8, .int x5), (7, .int (1 : Int32)), (6, .int x3), (5, .int x1), (0, .ref (Ea E 29)), (1, .int v1), (2, .int v2), (3, .int v3), (4, .int v4)] dX0_answersGo_38 (Nat.le_of_ble_eq_true rfl) rfl rfl ?_
    exact sim_sub [4, 5, 8, 3, 2, 1, 0] rfl (sl_X0_answersGo_40 hL hB hq hQ (sf_X0_answersGo_159 hL hB hq hQ) FU v1 v4 x1 x3 (1 : Int32) x5 w6)
  · refine sim_iconst (0 : Int32) dX0_answersGo_13 rfl rfl ?_
    exact sim_zret rfl dX0_answersGo_14
def f_X0_hunterGoes_12 (N : Nat) (Q : Int32 → Int32 → Int32 → Int32 → Wd → Option (Int32 × Wd)) (w : Wd) : Option (Int32 × Wd) :=
  if zb (0 : Int32) = true then some ((0 : Int32), w) else none
set_option maxRecDepth 20000 in
theorem sf_X0_hunterGoes_12 {E : Ev} (hL : LX E) {d dq : Nat} (hB : BASE_X0_hunterGoes ≤ d) (hq : dq + 1 ≤ d) {Q : Int32 → Int32 → Int32 → Int32 → Wd → Option (Int32 × Wd)} (hQ : ∀ (v1 v2 v3 v4 : Int32) (w : Wd), Ct E (m_X0_answersGo dq) yX0_answersGo rI [.ref (Ea E 29), .int v1, .int v2, .int v3, .int v4] w (Q v1 v2 v3 v4 w)) (w : Wd) : Sim E (m_X0_hunterGoes d) rI 12 [] [] w (f_X0_hunterGoes_12 (En E) Q w) := by
  unfold f_X0_hunterGoes_12
  refine sim_iconst (0 : Int32) dX0_hunterGoes_12 rfl rfl ?_
  exact sim_zret rfl dX0_hunterGoes_13
def f_X0_hunterGoes_119 (N : Nat) (Q : Int32 → Int32 → Int32 → Int32 → Wd → Option (Int32 × Wd)) (R : Int32 → Int32 → Int32 → Int32 → Int32 → Int32 → Wd → Option (Int32 × Wd)) (K134 : Int32 → Wd → Option (Int32 × Wd)) (v1 : Int32) (v2 : Int32) (v3 : Int32) (v4 : Int32) (v5 : Int32) (v6 : Int32) (v7 : Int32) (w : Wd) : Option (Int32 × Wd) :=
  bd (f_X6_revert N v7 w) fun _ w9 =>
  R v1 v2 v3 v4 v5 (v6 + (1 : Int32)) w9
set_option maxRecDepth 20000 in
theorem sf_X0_hunterGoes_119 {E : Ev} (hL : LX E) {d dq : Nat} (hB : BASE_X0_hunterGoes ≤ d) (hq : dq + 1 ≤ d) {Q : Int32 → Int32 → Int32 → Int32 → Wd → Option (Int32 × Wd)} (hQ : ∀ (v1 v2 v3 v4 : Int32) (w : Wd), Ct E (m_X0_answersGo dq) yX0_answersGo rI [.ref (Ea E 29), .int v1, .int v2, .int v3, .int v4] w (Q v1 v2 v3 v4 w)) {R : Int32 → Int32 → Int32 → Int32 → Int32 → Int32 → Wd → Option (Int32 × Wd)} (hR : ∀ (v1 : Int32) (v2 : Int32) (v3 : Int32) (v4 : Int32) (v5 : Int32) (v6 : Int32) (w : Wd), Sim E (m_X0_hunterGoes d) rI 37 [(0, .ref (Ea E 29)), (1, .int v1), (2, .int v2), (3, .int v3), (4, .int v4), (5, .int v5), (6, .int v6)] [] w (R v1 v2 v3 v4 v5 v6 w)) {K134 : Int32 → Wd → Option (Int32 × Wd)} (hK134 : ∀ (v5 : Int32) (w : Wd), Sim E (m_X0_hunterGoes d) rI 134 [(5, .int v5)] [] w (K134 v5 w)) (v1 : Int32) (v2 : Int32) (v3 : Int32) (v4 : Int32) (v5 : Int32) (v6 : Int32) (v7 : Int32) (w : Wd) : Sim E (m_X0_hunterGoes d) rI 119 [(0, .ref (Ea E 29)), (1, .int v1), (2, .int v2), (3, .int v3), (4, .int v4), (5, .int v5), (6, .int v6), (7, .int v7)] [] w (f_X0_hunterGoes_119 (En E) Q R K134 v1 v2 v3 v4 v5 v6 v7 w) := by
  unfold f_X0_hunterGoes_119
  refine sim_aload_n 0 dX0_hunterGoes_119 rfl rfl ?_
  refine sim_get (k := 29) (ci := 0) (j := 1) (v := .ref (Ea E 22)) (hL.1 29 rfl) rfl (by decide) fl_X0_29 rfl dX0_hunterGoes_120 rfl ?_
  refine sim_iload 7 dX0_hunterGoes_123 rfl rfl ?_
  refine sim_cVv (k := 22) (ci := 4) [.int v7] [] (c_X6_revert hL v7 w) (hL.1 22 rfl) rfl (by decide) rfl cb_X0_75 im_X6_revert se_X6_revert rfl (DD_le hB rfl rfl) rfl (Nat.le_of_ble_eq_true rfl) dX0_hunterGoes_125 rfl (fun _ w9 => ?_)
  refine sim_iinc (v6 + (1 : Int32)) 6 [(6, .int (v6 + (1 : Int32))), (0, .ref (Ea E 29)), (1, .int v1), (2, .int v2), (3, .int v3), (4, .int v4), (5, .int v5), (7, .int v7)] dX0_hunterGoes_128 rfl rfl (Nat.le_of_ble_eq_true rfl) rfl rfl ?_
  refine sim_goto (q := 37) dX0_hunterGoes_131 rfl ?_
  exact sim_sub [1, 2, 3, 4, 5, 6, 0] rfl (hR v1 v2 v3 v4 v5 (v6 + (1 : Int32)) w9)
def b_X0_hunterGoes_37 (N : Nat) (Q : Int32 → Int32 → Int32 → Int32 → Wd → Option (Int32 × Wd)) (R : Int32 → Int32 → Int32 → Int32 → Int32 → Int32 → Wd → Option (Int32 × Wd)) (K134 : Int32 → Wd → Option (Int32 × Wd)) (v1 : Int32) (v2 : Int32) (v3 : Int32) (v4 : Int32) (v5 : Int32) (v6 : Int32) (w : Wd) : Option (Int32 × Wd) :=
  if v4 ≤ v6 then
  K134 v5 w
  else
  if v5 = (0 : Int32) then
  if (w.1 29 8) = (0 : Int32) then
  if inb v6 (270 * (N * N)) = true then
  lt (w.1 28 (Int32.toNatClampNeg v6)) fun x5 =>
  bd (f_X6_apply N x5 w) fun _ w6 =>
  bd (f_X6_inCheck N (w6.1 22 7) w6) fun x7 w8 =>
  if x7 = (0 : Int32) then
  f_X0_hunterGoes_119 N Q R K134 v1 v2 v3 v4 v5 v6 x5 w8
  else
  bd (f_X5_holds N x5 w8) fun x10 w11 =>
  if x10 = (0 : Int32) then
  f_X0_hunterGoes_119 N Q R K134 v1 v2 v3 v4 v5 v6 x5 w11
  else
  bd (Q v1 x5 v2 (v3 + (1 : Int32)) w11) fun x12 w13 =>
  f_X0_hunterGoes_119 N Q R K134 v1 v2 v3 v4 x12 v6 x5 w13
  else none
  else
  K134 v5 w
  else
  K134 v5 w
set_option maxRecDepth 20000 in
theorem sb_X0_hunterGoes_37 {E : Ev} (hL : LX E) {d dq : Nat} (hB : BASE_X0_hunterGoes ≤ d) (hq : dq + 1 ≤ d) {Q : Int32 → Int32 → Int32 → Int32 → Wd → Option (Int32 × Wd)} (hQ : ∀ (v1 v2 v3 v4 : Int32) (w : Wd), Ct E (m_X0_answersGo dq) yX0_answersGo rI [.ref (Ea E 29), .int v1, .int v2, .int v3, .int v4] w (Q v1 v2 v3 v4 w)) {R : Int32 → Int32 → Int32 → Int32 → Int32 → Int32 → Wd → Option (Int32 × Wd)} (hR : ∀ (v1 : Int32) (v2 : Int32) (v3 : Int32) (v4 : Int32) (v5 : Int32) (v6 : Int32) (w : Wd), Sim E (m_X0_hunterGoes d) rI 37 [(0, .ref (Ea E 29)), (1, .int v1), (2, .int v2), (3, .int v3), (4, .int v4), (5, .int v5), (6, .int v6)] [] w (R v1 v2 v3 v4 v5 v6 w)) {K134 : Int32 → Wd → Option (Int32 × Wd)} (hK134 : ∀ (v5 : Int32) (w : Wd), Sim E (m_X0_hunterGoes d) rI 134 [(5, .int v5)] [] w (K134 v5 w)) (v1 : Int32) (v2 : Int32) (v3 : Int32) (v4 : Int32) (v5 : Int32) (v6 : Int32) (w : Wd) : Sim E (m_X0_hunterGoes d) rI 37 [(0, .ref (Ea E 29)), (1, .int v1), (2, .int v2), (3, .int v3), (4, .int v4), (5, .int v5), (6, .int v6)] [] w (b_X0_hunterGoes_37 (En E) Q R K134 v1 v2 v3 v4 v5 v6 w) := by
  unfold b_X0_hunterGoes_37
  refine sim_iload 6 dX0_hunterGoes_37 rfl rfl ?_
  refine sim_iload 4 dX0_hunterGoes_39 rfl rfl ?_
  refine sim_icmp_ge 134 dX0_hunterGoes_41 rfl rfl (fun _ => ?_) (fun _ => ?_)
  · exact sim_sub [5] rfl (hK134 v5 w)
  · refine sim_iload 5 dX0_hunterGoes_44 rfl rfl ?_
    refine sim_if_ne 134 dX0_hunterGoes_46 rfl rfl (fun _ => ?_) (fun _ => ?_)
    · exact sim_sub [5] rfl (hK134 v5 w)
    · refine sim_aload_n 0 dX0_hunterGoes_49 rfl rfl ?_
      refine sim_get (k := 29) (ci := 0) (j := 8) (v := .int (w.1 29 8)) (hL.1 29 rfl) rfl (by decide) fl_X0_39 rfl dX0_hunterGoes_50 rfl ?_
      refine sim_if_ne 134 dX0_hunterGoes_53 rfl rfl (fun _ => ?_) (fun _ => ?_)
      · exact sim_sub [5] rfl (hK134 v5 w)
      · refine sim_aload_n 0 dX0_hunterGoes_56 rfl rfl ?_
        refine sim_get (k := 29) (ci := 0) (j := 0) (v := .ref (Ea E 27)) (hL.1 29 rfl) rfl (by decide) fl_X0_25 rfl dX0_hunterGoes_57 rfl ?_
        refine sim_get (k := 27) (ci := 3) (j := 3) (v := .ref (Ea E 28)) (hL.1 27 rfl) rfl (by decide) fl_X0_52 rfl dX0_hunterGoes_60 rfl ?_
        refine sim_iload 6 dX0_hunterGoes_63 rfl rfl ?_
        refine sim_iaload (k := 28) (hL.1 28 rfl) rfl rfl dX0_hunterGoes_65 rfl ?_
        refine sim_lt (fun x5 => ?_)
        refine sim_istore [(7, .int x5), (0, .ref (Ea E 29)), (1, .int v1), (2, .int v2), (3, .int v3), (4, .int v4), (5, .int v5), (6, .int v6)] dX0_hunterGoes_66 (Nat.le_of_ble_eq_true rfl) rfl rfl ?_
        refine sim_aload_n 1 dX0_hunterGoes_68 rfl rfl ?_
        refine sim_get (k := 29) (ci := 0) (j := 1) (v := .ref (Ea E 22)) (hL.1 29 rfl) rfl (by decide) fl_X0_29 rfl dX0_hunterGoes_69 rfl ?_
        refine sim_iload 0 dX0_hunterGoes_72 rfl rfl ?_
        refine sim_cVv (k := 22) (ci := 4) [.int x5] [] (c_X6_apply hL x5 w) (hL.1 22 rfl) rfl (by decide) rfl cb_X0_55 im_X6_apply se_X6_apply rfl (DD_le hB rfl rfl) rfl (Nat.le_of_ble_eq_true rfl) dX0_hunterGoes_74 rfl (fun _ w6 => ?_)
        refine sim_aload_n 1 dX0_hunterGoes_77 rfl rfl ?_
        refine sim_get (k := 29) (ci := 0) (j := 1) (v := .ref (Ea E 22)) (hL.1 29 rfl) rfl (by decide) fl_X0_29 rfl dX0_hunterGoes_78 rfl ?_
        refine sim_aload_n 1 dX0_hunterGoes_81 rfl rfl ?_
        refine sim_get (k := 29) (ci := 0) (j := 1) (v := .ref (Ea E 22)) (hL.1 29 rfl) rfl (by decide) fl_X0_29 rfl dX0_hunterGoes_82 rfl ?_
        refine sim_get (k := 22) (ci := 4) (j := 7) (v := .int (w6.1 22 7)) (hL.1 22 rfl) rfl (by decide) fl_X0_61 rfl dX0_hunterGoes_85 rfl ?_
        refine sim_cVi (k := 22) (ci := 4) [.int (w6.1 22 7)] [] (c_X6_inCheck hL (w6.1 22 7) w6) (hL.1 22 rfl) rfl (by decide) rfl cb_X0_64 im_X6_inCheck se_X6_inCheck rfl (DD_le hB rfl rfl) rfl (Nat.le_of_ble_eq_true rfl) dX0_hunterGoes_88 rfl (fun x7 w8 => ?_)
        refine sim_if_eq 119 dX0_hunterGoes_91 rfl rfl (fun _ => ?_) (fun _ => ?_)
        · exact sim_sub [1, 2, 3, 4, 5, 6, 7, 0] rfl (sf_X0_hunterGoes_119 hL hB hq hQ hR hK134 v1 v2 v3 v4 v5 v6 x5 w8)
        · refine sim_aload_n 1 dX0_hunterGoes_94 rfl rfl ?_
          refine sim_get (k := 29) (ci := 0) (j := 0) (v := .ref (Ea E 27)) (hL.1 29 rfl) rfl (by decide) fl_X0_25 rfl dX0_hunterGoes_95 rfl ?_
          refine sim_iload 0 dX0_hunterGoes_98 rfl rfl ?_
          refine sim_cVi (k := 27) (ci := 3) [.int x5] [] (c_X5_holds hL x5 w8) (hL.1 27 rfl) rfl (by decide) rfl cb_X0_68 im_X5_holds se_X5_holds rfl (DD_le hB rfl rfl) rfl (Nat.le_of_ble_eq_true rfl) dX0_hunterGoes_100 rfl (fun x10 w11 => ?_)
          refine sim_if_eq 119 dX0_hunterGoes_103 rfl rfl (fun _ => ?_) (fun _ => ?_)
          · exact sim_sub [1, 2, 3, 4, 5, 6, 7, 0] rfl (sf_X0_hunterGoes_119 hL hB hq hQ hR hK134 v1 v2 v3 v4 v5 v6 x5 w11)
          · refine sim_aload_n 1 dX0_hunterGoes_106 rfl rfl ?_
            refine sim_iload_n 2 dX0_hunterGoes_107 rfl rfl ?_
            refine sim_iload 0 dX0_hunterGoes_108 rfl rfl ?_
            refine sim_iload_n 3 dX0_hunterGoes_110 rfl rfl ?_
            refine sim_iload_n 4 dX0_hunterGoes_111 rfl rfl ?_
            refine sim_iconst (1 : Int32) dX0_hunterGoes_112 rfl rfl ?_
            refine sim_iadd dX0_hunterGoes_113 rfl ?_
            refine sim_cVi (k := 29) (ci := 0) [.int v1, .int x5, .int v2, .int (v3 + (1 : Int32))] [] (hQ v1 x5 v2 (v3 + (1 : Int32)) w11) (hL.1 29 rfl) rfl (by decide) rfl (cb_X0_71 _) im_X0_answersGo se_X0_answersGo rfl (DD_q hq rfl) rfl (Nat.le_of_ble_eq_true rfl) dX0_hunterGoes_114 rfl (fun x12 w13 => ?_)
            refine sim_istore [(5, .int x12), (7, .int x5), (0, .ref (Ea E 29)), (1, .int v1), (2, .int v2), (3, .int v3), (4, .int v4), (6, .int v6)] dX0_hunterGoes_117 (Nat.le_of_ble_eq_true rfl) rfl rfl ?_
            exact sim_sub [2, 3, 4, 5, 6, 0, 7, 1] rfl (sf_X0_hunterGoes_119 hL hB hq hQ hR hK134 v1 v2 v3 v4 x12 v6 x5 w13)
def l_X0_hunterGoes_37 (N : Nat) (Q : Int32 → Int32 → Int32 → Int32 → Wd → Option (Int32 × Wd)) (K134 : Int32 → Wd → Option (Int32 × Wd)) (n : Nat) : Int32 → Int32 → Int32 → Int32 → Int32 → Int32 → Wd → Option (Int32 × Wd) := itr (fun _ _ _ _ _ _ _ => none) (fun R => b_X0_hunterGoes_37 N Q R K134) n
set_option maxRecDepth 20000 in
theorem sl_X0_hunterGoes_37 {E : Ev} (hL : LX E) {d dq : Nat} (hB : BASE_X0_hunterGoes ≤ d) (hq : dq + 1 ≤ d) {Q : Int32 → Int32 → Int32 → Int32 → Wd → Option (Int32 × Wd)} (hQ : ∀ (v1 v2 v3 v4 : Int32) (w : Wd), Ct E (m_X0_answersGo dq) yX0_answersGo rI [.ref (Ea E 29), .int v1, .int v2, .int v3, .int v4] w (Q v1 v2 v3 v4 w)) {K134 : Int32 → Wd → Option (Int32 × Wd)} (hK134 : ∀ (v5 : Int32) (w : Wd), Sim E (m_X0_hunterGoes d) rI 134 [(5, .int v5)] [] w (K134 v5 w)) : ∀ (n : Nat) (v1 : Int32) (v2 : Int32) (v3 : Int32) (v4 : Int32) (v5 : Int32) (v6 : Int32) (w : Wd), Sim E (m_X0_hunterGoes d) rI 37 [(0, .ref (Ea E 29)), (1, .int v1), (2, .int v2), (3, .int v3), (4, .int v4), (5, .int v5), (6, .int v6)] [] w (l_X0_hunterGoes_37 (En E) Q K134 n v1 v2 v3 v4 v5 v6 w) := by
  intro n
  induction n with
  | zero => intros; exact sim_none
  | succ n ih => intros; exact sb_X0_hunterGoes_37 hL hB hq hQ (R := l_X0_hunterGoes_37 (En E) Q K134 n) ih hK134 _ _ _ _ _ _ _
def f_X0_hunterGoes_134 (N : Nat) (Q : Int32 → Int32 → Int32 → Int32 → Wd → Option (Int32 × Wd)) (v5 : Int32) (w : Wd) : Option (Int32 × Wd) :=
  if zb v5 = true then some (v5, w) else none
set_option maxRecDepth 20000 in
theorem sf_X0_hunterGoes_134 {E : Ev} (hL : LX E) {d dq : Nat} (hB : BASE_X0_hunterGoes ≤ d) (hq : dq + 1 ≤ d) {Q : Int32 → Int32 → Int32 → Int32 → Wd → Option (Int32 × Wd)} (hQ : ∀ (v1 v2 v3 v4 : Int32) (w : Wd), Ct E (m_X0_answersGo dq) yX0_answersGo rI [.ref (Ea E 29), .int v1, .int v2, .int v3, .int v4] w (Q v1 v2 v3 v4 w)) (v5 : Int32) (w : Wd) : Sim E (m_X0_hunterGoes d) rI 134 [(5, .int v5)] [] w (f_X0_hunterGoes_134 (En E) Q v5 w) := by
  unfold f_X0_hunterGoes_134
  refine sim_iload 0 dX0_hunterGoes_134 rfl rfl ?_
  exact sim_zret rfl dX0_hunterGoes_136
def f_X0_hunterGoes (N : Nat) (Q : Int32 → Int32 → Int32 → Int32 → Wd → Option (Int32 × Wd)) (v1 : Int32) (v2 : Int32) (v3 : Int32) (w : Wd) : Option (Int32 × Wd) :=
  if v1 ≤ (0 : Int32) then
  f_X0_hunterGoes_12 N Q w
  else
  if (v3 + (1 : Int32)) < (10 : Int32) then
  bd (f_X5_fill N v3 w) fun x1 w2 =>
  bd (f_X5_startOf N v3 w2) fun x3 w4 =>
  l_X0_hunterGoes_37 N Q (f_X0_hunterGoes_134 N Q) FU v1 v2 v3 x1 (0 : Int32) x3 w4
  else
  f_X0_hunterGoes_12 N Q w
set_option maxRecDepth 20000 in
theorem c_X0_hunterGoes {E : Ev} (hL : LX E) {d dq : Nat} (hB : BASE_X0_hunterGoes ≤ d) (hq : dq + 1 ≤ d) {Q : Int32 → Int32 → Int32 → Int32 → Wd → Option (Int32 × Wd)} (hQ : ∀ (v1 v2 v3 v4 : Int32) (w : Wd), Ct E (m_X0_answersGo dq) yX0_answersGo rI [.ref (Ea E 29), .int v1, .int v2, .int v3, .int v4] w (Q v1 v2 v3 v4 w)) (v1 : Int32) (v2 : Int32) (v3 : Int32) (w : Wd) : Ct E (m_X0_hunterGoes d) yX0_hunterGoes rI [.ref (Ea E 29), .int v1, .int v2, .int v3] w (f_X0_hunterGoes (En E) Q v1 v2 v3 w) := by
  refine Ct.of (by decide) ⟨rfl, rfl⟩ (Nat.le_of_ble_eq_true rfl) ?_
  show Sim E (m_X0_hunterGoes d) rI 0 [(0, .ref (Ea E 29)), (1, .int v1), (2, .int v2), (3, .int v3)] [] w (f_X0_hunterGoes (En E) Q v1 v2 v3 w)
  unfold f_X0_hunterGoes
  refine sim_iload_n 1 dX0_hunterGoes_0 rfl rfl ?_
  refine sim_if_le 12 dX0_hunterGoes_1 rfl rfl (fun _ => ?_) (fun _ => ?_)
  · exact sim_sub [] rfl (sf_X0_hunterGoes_12 hL hB hq hQ w)
  · refine sim_iload_n 3 dX0_hunterGoes_4 rfl rfl ?_
    refine sim_iconst (1 : Int32) dX0_hunterGoes_5 rfl rfl ?_
    refine sim_iadd dX0_hunterGoes_6 rfl ?_
    refine sim_bipush (10 : Int32) dX0_hunterGoes_7 rfl rfl ?_
    refine sim_icmp_lt 14 dX0_hunterGoes_9 rfl rfl (fun _ => ?_) (fun _ => ?_)
    · refine sim_aload_n 0 dX0_hunterGoes_14 rfl rfl ?_
      refine sim_get (k := 29) (ci := 0) (j := 0) (v := .ref (Ea E 27)) (hL.1 29 rfl) rfl (by decide) fl_X0_25 rfl dX0_hunterGoes_15 rfl ?_
      refine sim_iload_n 3 dX0_hunterGoes_18 rfl rfl ?_
      refine sim_cVi (k := 27) (ci := 3) [.int v3] [] (c_X5_fill hL v3 w) (hL.1 27 rfl) rfl (by decide) rfl cb_X0_45 im_X5_fill se_X5_fill rfl (DD_le hB rfl rfl) rfl (Nat.le_of_ble_eq_true rfl) dX0_hunterGoes_19 rfl (fun x1 w2 => ?_)
      refine sim_istore [(4, .int x1), (0, .ref (Ea E 29)), (1, .int v1), (2, .int v2), (3, .int v3)] dX0_hunterGoes_22 (Nat.le_of_ble_eq_true rfl) rfl rfl ?_
      refine sim_iconst (0 : Int32) dX0_hunterGoes_24 rfl rfl ?_
      refine sim_istore [(5, .int (0 : Int32)), (4, .int x1), (0, .ref (Ea E 29)), (1, .int v1), (2, .int v2), (3, .int v3)] dX0_hunterGoes_25 (Nat.le_of_ble_eq_true rfl) rfl rfl ?_
      refine sim_aload_n 2 dX0_hunterGoes_27 rfl rfl ?_
      refine sim_get (k := 29) (ci := 0) (j := 0) (v := .ref (Ea E 27)) (hL.1 29 rfl) rfl (by decide) fl_X0_25 rfl dX0_hunterGoes_28 rfl ?_
      refine sim_iload_n 5 dX0_hunterGoes_31 rfl rfl ?_
      refine sim_cVi (k := 27) (ci := 3) [.int v3] [] (c_X5_startOf hL v3 w2) (hL.1 27 rfl) rfl (by decide) rfl cb_X0_49 im_X5_startOf se_X5_startOf rfl (DD_le hB rfl rfl) rfl (Nat.le_of_ble_eq_true rfl) dX0_hunterGoes_32 rfl (fun x3 w4 => ?_)
      refine sim_istore [(6, .int x3), (5, .int (0 : Int32)), (4, .int x1), (0, .ref (Ea E 29)), (1, .int v1), (2, .int v2), (3, .int v3)] dX0_hunterGoes_35 (Nat.le_of_ble_eq_true rfl) rfl rfl ?_
      exact sim_sub [3, 4, 5, 6, 2, 1, 0] rfl (sl_X0_hunterGoes_37 hL hB hq hQ (sf_X0_hunterGoes_134 hL hB hq hQ) FU v1 v2 v3 x1 (0 : Int32) x3 w4)
    · exact sim_sub [] rfl (sf_X0_hunterGoes_12 hL hB hq hQ w)
def g_X0_hunterGoes (N : Nat) : Nat → Int32 → Int32 → Int32 → Wd → Option (Int32 × Wd)
  | 0 => fun _ _ _ _ => none
  | n + 1 => f_X0_hunterGoes N (f_X0_answersGo N (g_X0_hunterGoes N n))
set_option maxRecDepth 20000 in
theorem gc_X0_hunterGoes {E : Ev} (hL : LX E) : ∀ (n : Nat) (v1 v2 v3 : Int32) (w : Wd), Ct E (m_X0_hunterGoes (6 + 2 * n)) yX0_hunterGoes rI [.ref (Ea E 29), .int v1, .int v2, .int v3] w (g_X0_hunterGoes (En E) n v1 v2 v3 w) := by
  intro n
  induction n with
  | zero => intros; exact Ct_none
  | succ n ih =>
    intro v1 v2 v3 w
    exact c_X0_hunterGoes hL (d := 6 + 2 * (n + 1)) (dq := 6 + 2 * n + 1) (by show 6 ≤ _; omega) (by omega) (fun u1 u2 u3 u4 w => c_X0_answersGo hL (d := 6 + 2 * n + 1) (dq := 6 + 2 * n) (by show 6 ≤ _; omega) (by omega) ih u1 u2 u3 u4 w) v1 v2 v3 w
def f_X0_hunterGoesR (N : Nat) (v1 v2 v3 : Int32) (w : Wd) : Option (Int32 × Wd) := g_X0_hunterGoes N 6 v1 v2 v3 w
abbrev m_X0_hunterGoesR : Mt := m_X0_hunterGoes 18
set_option maxRecDepth 20000 in
theorem c_X0_hunterGoesR {E : Ev} (hL : LX E) (v1 v2 v3 : Int32) (w : Wd) : Ct E m_X0_hunterGoesR yX0_hunterGoes rI [.ref (Ea E 29), .int v1, .int v2, .int v3] w (f_X0_hunterGoesR (En E) v1 v2 v3 w) := gc_X0_hunterGoes hL 6 v1 v2 v3 w
def b_X0_depthOf_9 (N : Nat) (R : Int32 → Int32 → Wd → Option (Int32 × Wd)) (K34 : Int32 → Wd → Option (Int32 × Wd)) (v2 : Int32) (v3 : Int32) (w : Wd) : Option (Int32 × Wd) :=
  if v3 < (0 : Int32) then
  K34 v2 w
  else
  if (w.1 29 5) ≤ v2 then
  K34 v2 w
  else
  if inb v3 1000 = true then
  lt (w.1 31 (Int32.toNatClampNeg v3)) fun x2 =>
  R (v2 + (1 : Int32)) x2 w
  else none
set_option maxRecDepth 20000 in
theorem sb_X0_depthOf_9 {E : Ev} (hL : LX E) {R : Int32 → Int32 → Wd → Option (Int32 × Wd)} (hR : ∀ (v2 : Int32) (v3 : Int32) (w : Wd), Sim E m_X0_depthOf rI 9 [(0, .ref (Ea E 29)), (2, .int v2), (3, .int v3)] [] w (R v2 v3 w)) {K34 : Int32 → Wd → Option (Int32 × Wd)} (hK34 : ∀ (v2 : Int32) (w : Wd), Sim E m_X0_depthOf rI 34 [(2, .int v2)] [] w (K34 v2 w)) (v2 : Int32) (v3 : Int32) (w : Wd) : Sim E m_X0_depthOf rI 9 [(0, .ref (Ea E 29)), (2, .int v2), (3, .int v3)] [] w (b_X0_depthOf_9 (En E) R K34 v2 v3 w) := by
  unfold b_X0_depthOf_9
  refine sim_iload_n 2 dX0_depthOf_9 rfl rfl ?_
  refine sim_if_lt 34 dX0_depthOf_10 rfl rfl (fun _ => ?_) (fun _ => ?_)
  · exact sim_sub [1] rfl (hK34 v2 w)
  · refine sim_iload_n 1 dX0_depthOf_13 rfl rfl ?_
    refine sim_aload_n 0 dX0_depthOf_14 rfl rfl ?_
    refine sim_get (k := 29) (ci := 0) (j := 5) (v := .int (w.1 29 5)) (hL.1 29 rfl) rfl (by decide) fl_X0_33 rfl dX0_depthOf_15 rfl ?_
    refine sim_icmp_ge 34 dX0_depthOf_18 rfl rfl (fun _ => ?_) (fun _ => ?_)
    · exact sim_sub [1] rfl (hK34 v2 w)
    · refine sim_iinc (v2 + (1 : Int32)) 1 [(2, .int (v2 + (1 : Int32))), (0, .ref (Ea E 29)), (3, .int v3)] dX0_depthOf_21 rfl rfl (Nat.le_of_ble_eq_true rfl) rfl rfl ?_
      refine sim_aload_n 1 dX0_depthOf_24 rfl rfl ?_
      refine sim_get (k := 29) (ci := 0) (j := 3) (v := .ref (Ea E 31)) (hL.1 29 rfl) rfl (by decide) fl_X0_15 rfl dX0_depthOf_25 rfl ?_
      refine sim_iload_n 2 dX0_depthOf_28 rfl rfl ?_
      refine sim_iaload (k := 31) (hL.1 31 rfl) rfl rfl dX0_depthOf_29 rfl ?_
      refine sim_lt (fun x2 => ?_)
      refine sim_istore_n [(3, .int x2), (2, .int (v2 + (1 : Int32))), (0, .ref (Ea E 29))] dX0_depthOf_30 (Nat.le_of_ble_eq_true rfl) rfl rfl ?_
      refine sim_goto (q := 9) dX0_depthOf_31 rfl ?_
      exact sim_sub [2, 1, 0] rfl (hR (v2 + (1 : Int32)) x2 w)
def l_X0_depthOf_9 (N : Nat) (K34 : Int32 → Wd → Option (Int32 × Wd)) (n : Nat) : Int32 → Int32 → Wd → Option (Int32 × Wd) := itr (fun _ _ _ => none) (fun R => b_X0_depthOf_9 N R K34) n
set_option maxRecDepth 20000 in
theorem sl_X0_depthOf_9 {E : Ev} (hL : LX E) {K34 : Int32 → Wd → Option (Int32 × Wd)} (hK34 : ∀ (v2 : Int32) (w : Wd), Sim E m_X0_depthOf rI 34 [(2, .int v2)] [] w (K34 v2 w)) : ∀ (n : Nat) (v2 : Int32) (v3 : Int32) (w : Wd), Sim E m_X0_depthOf rI 9 [(0, .ref (Ea E 29)), (2, .int v2), (3, .int v3)] [] w (l_X0_depthOf_9 (En E) K34 n v2 v3 w) := by
  intro n
  induction n with
  | zero => intros; exact sim_none
  | succ n ih => intros; exact sb_X0_depthOf_9 hL (R := l_X0_depthOf_9 (En E) K34 n) ih hK34 _ _ _
def f_X0_depthOf_34 (N : Nat) (v2 : Int32) (w : Wd) : Option (Int32 × Wd) :=
  some (v2, w)
set_option maxRecDepth 20000 in
theorem sf_X0_depthOf_34 {E : Ev} (hL : LX E) (v2 : Int32) (w : Wd) : Sim E m_X0_depthOf rI 34 [(2, .int v2)] [] w (f_X0_depthOf_34 (En E) v2 w) := by
  unfold f_X0_depthOf_34
  refine sim_iload_n 0 dX0_depthOf_34 rfl rfl ?_
  exact sim_iret rfl dX0_depthOf_35
def f_X0_depthOf (N : Nat) (v1 : Int32) (w : Wd) : Option (Int32 × Wd) :=
  if inb v1 1000 = true then
  lt (w.1 31 (Int32.toNatClampNeg v1)) fun x1 =>
  l_X0_depthOf_9 N (f_X0_depthOf_34 N) FU (0 : Int32) x1 w
  else none
set_option maxRecDepth 20000 in
theorem c_X0_depthOf {E : Ev} (hL : LX E) (v1 : Int32) (w : Wd) : Ct E m_X0_depthOf yX0_depthOf rI [.ref (Ea E 29), .int v1] w (f_X0_depthOf (En E) v1 w) := by
  refine Ct.of (by decide) ⟨rfl, rfl⟩ (Nat.le_of_ble_eq_true rfl) ?_
  show Sim E m_X0_depthOf rI 0 [(0, .ref (Ea E 29)), (1, .int v1)] [] w (f_X0_depthOf (En E) v1 w)
  unfold f_X0_depthOf
  refine sim_iconst (0 : Int32) dX0_depthOf_0 rfl rfl ?_
  refine sim_istore_n [(2, .int (0 : Int32)), (0, .ref (Ea E 29)), (1, .int v1)] dX0_depthOf_1 (Nat.le_of_ble_eq_true rfl) rfl rfl ?_
  refine sim_aload_n 1 dX0_depthOf_2 rfl rfl ?_
  refine sim_get (k := 29) (ci := 0) (j := 3) (v := .ref (Ea E 31)) (hL.1 29 rfl) rfl (by decide) fl_X0_15 rfl dX0_depthOf_3 rfl ?_
  refine sim_iload_n 2 dX0_depthOf_6 rfl rfl ?_
  refine sim_iaload (k := 31) (hL.1 31 rfl) rfl rfl dX0_depthOf_7 rfl ?_
  refine sim_lt (fun x1 => ?_)
  refine sim_istore_n [(3, .int x1), (2, .int (0 : Int32)), (0, .ref (Ea E 29)), (1, .int v1)] dX0_depthOf_8 (Nat.le_of_ble_eq_true rfl) rfl rfl ?_
  exact sim_sub [2, 1, 0] rfl (sl_X0_depthOf_9 hL (sf_X0_depthOf_34 hL) FU (0 : Int32) x1 w)
