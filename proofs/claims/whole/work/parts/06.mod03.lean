def f_X10_stand_61 (R : Int32 → Int32 → Wd → Option (Int32 × Wd)) (K55 : Wd → Option (Int32 × Wd)) (K67 : Int32 → Wd → Option (Int32 × Wd)) (v1 : Int32) (v2 : Int32) (w : Wd) : Option (Int32 × Wd) :=
  R v1 (v2 + (1 : Int32)) w
set_option maxRecDepth 20000 in
theorem sf_X10_stand_61 {E : Ev} (hL : LM E) {R : Int32 → Int32 → Wd → Option (Int32 × Wd)} (hR : ∀ (v1 : Int32) (v2 : Int32) (w : Wd), Sim E m_X10_stand rI 25 [(0, .ref (Ea E 50)), (1, .int v1), (2, .int v2)] [] w (R v1 v2 w)) {K55 : Wd → Option (Int32 × Wd)} (hK55 : ∀ (w : Wd), Sim E m_X10_stand rI 55 [(0, .ref (Ea E 50))] [] w (K55  w)) {K67 : Int32 → Wd → Option (Int32 × Wd)} (hK67 : ∀ (v1 : Int32) (w : Wd), Sim E m_X10_stand rI 67 [(0, .ref (Ea E 50)), (1, .int v1)] [] w (K67 v1 w)) (v1 : Int32) (v2 : Int32) (w : Wd) : Sim E m_X10_stand rI 61 [(0, .ref (Ea E 50)), (1, .int v1), (2, .int v2)] [] w (f_X10_stand_61 R K55 K67 v1 v2 w) := by
  unfold f_X10_stand_61
  refine sim_iinc (v2 + (1 : Int32)) 2 [(2, .int (v2 + (1 : Int32))), (0, .ref (Ea E 50)), (1, .int v1)] dX10_stand_61 rfl rfl (Nat.le_of_ble_eq_true rfl) rfl rfl ?_
  refine sim_goto (q := 25) dX10_stand_64 rfl ?_
  exact sim_sub [1, 2, 0] rfl (hR v1 (v2 + (1 : Int32)) w)
def b_X10_stand_25 (R : Int32 → Int32 → Wd → Option (Int32 × Wd)) (K55 : Wd → Option (Int32 × Wd)) (K67 : Int32 → Wd → Option (Int32 × Wd)) (v1 : Int32) (v2 : Int32) (w : Wd) : Option (Int32 × Wd) :=
  if (w.1 50 0) ≤ v2 then
  K67 v1 w
  else
  if inb v2 7 = true then
  if (w.1 56 (Int32.toNatClampNeg v2)) < (0 : Int32) then
  f_X10_stand_61 R K55 K67 v1 v2 w
  else
  if inb v2 7 = true then
  if (w.1 50 0) ≤ (w.1 57 (Int32.toNatClampNeg v2)) then
  f_X10_stand_61 R K55 K67 v1 v2 w
  else
  K55 w
  else none
  else none
set_option maxRecDepth 20000 in
theorem sb_X10_stand_25 {E : Ev} (hL : LM E) {R : Int32 → Int32 → Wd → Option (Int32 × Wd)} (hR : ∀ (v1 : Int32) (v2 : Int32) (w : Wd), Sim E m_X10_stand rI 25 [(0, .ref (Ea E 50)), (1, .int v1), (2, .int v2)] [] w (R v1 v2 w)) {K55 : Wd → Option (Int32 × Wd)} (hK55 : ∀ (w : Wd), Sim E m_X10_stand rI 55 [(0, .ref (Ea E 50))] [] w (K55  w)) {K67 : Int32 → Wd → Option (Int32 × Wd)} (hK67 : ∀ (v1 : Int32) (w : Wd), Sim E m_X10_stand rI 67 [(0, .ref (Ea E 50)), (1, .int v1)] [] w (K67 v1 w)) (v1 : Int32) (v2 : Int32) (w : Wd) : Sim E m_X10_stand rI 25 [(0, .ref (Ea E 50)), (1, .int v1), (2, .int v2)] [] w (b_X10_stand_25 R K55 K67 v1 v2 w) := by
  unfold b_X10_stand_25
  refine sim_iload_n 2 dX10_stand_25 rfl rfl ?_
  refine sim_aload_n 0 dX10_stand_26 rfl rfl ?_
  refine sim_get (k := 50) (ci := 8) (j := 0) (v := .int (w.1 50 0)) (hL 50 rfl) rfl (by decide) fl_X10_143 rfl dX10_stand_27 rfl ?_
  refine sim_icmp_ge 67 dX10_stand_30 rfl rfl (fun _ => ?_) (fun _ => ?_)
  · exact sim_sub [0, 1] rfl (hK67 v1 w)
  · refine sim_aload_n 0 dX10_stand_33 rfl rfl ?_
    refine sim_get (k := 50) (ci := 8) (j := 5) (v := .ref (Ea E 56)) (hL 50 rfl) rfl (by decide) fl_X10_19 rfl dX10_stand_34 rfl ?_
    refine sim_iload_n 2 dX10_stand_37 rfl rfl ?_
    refine sim_iaload (k := 56) (hL 56 rfl) rfl rfl dX10_stand_38 rfl ?_
    refine sim_if_lt 61 dX10_stand_39 rfl rfl (fun _ => ?_) (fun _ => ?_)
    · exact sim_sub [0, 1, 2] rfl (sf_X10_stand_61 hL hR hK55 hK67 v1 v2 w)
    · refine sim_aload_n 0 dX10_stand_42 rfl rfl ?_
      refine sim_get (k := 50) (ci := 8) (j := 6) (v := .ref (Ea E 57)) (hL 50 rfl) rfl (by decide) fl_X10_22 rfl dX10_stand_43 rfl ?_
      refine sim_iload_n 2 dX10_stand_46 rfl rfl ?_
      refine sim_iaload (k := 57) (hL 57 rfl) rfl rfl dX10_stand_47 rfl ?_
      refine sim_aload_n 0 dX10_stand_48 rfl rfl ?_
      refine sim_get (k := 50) (ci := 8) (j := 0) (v := .int (w.1 50 0)) (hL 50 rfl) rfl (by decide) fl_X10_143 rfl dX10_stand_49 rfl ?_
      refine sim_icmp_ge 61 dX10_stand_52 rfl rfl (fun _ => ?_) (fun _ => ?_)
      · exact sim_sub [0, 1, 2] rfl (sf_X10_stand_61 hL hR hK55 hK67 v1 v2 w)
      · exact sim_sub [0] rfl (hK55 w)
def l_X10_stand_25 (K55 : Wd → Option (Int32 × Wd)) (K67 : Int32 → Wd → Option (Int32 × Wd)) (n : Nat) : Int32 → Int32 → Wd → Option (Int32 × Wd) := itr (fun _ _ _ => none) (fun R => b_X10_stand_25 R K55 K67) n
set_option maxRecDepth 20000 in
theorem sl_X10_stand_25 {E : Ev} (hL : LM E) {K55 : Wd → Option (Int32 × Wd)} (hK55 : ∀ (w : Wd), Sim E m_X10_stand rI 55 [(0, .ref (Ea E 50))] [] w (K55  w)) {K67 : Int32 → Wd → Option (Int32 × Wd)} (hK67 : ∀ (v1 : Int32) (w : Wd), Sim E m_X10_stand rI 67 [(0, .ref (Ea E 50)), (1, .int v1)] [] w (K67 v1 w)) : ∀ (n : Nat) (v1 : Int32) (v2 : Int32) (w : Wd), Sim E m_X10_stand rI 25 [(0, .ref (Ea E 50)), (1, .int v1), (2, .int v2)] [] w (l_X10_stand_25 K55 K67 n v1 v2 w) := by
  intro n
  induction n with
  | zero => intros; exact sim_none
  | succ n ih => intros; exact sb_X10_stand_25 hL (R := l_X10_stand_25 K55 K67 n) ih hK55 hK67 _ _ _
def f_X10_stand_55 (w : Wd) : Option (Int32 × Wd) :=
  bd (f_X10_met (2 : Int32) w) fun x3 w4 =>
  some (x3, w4)
set_option maxRecDepth 20000 in
theorem sf_X10_stand_55 {E : Ev} (hL : LM E) (w : Wd) : Sim E m_X10_stand rI 55 [(0, .ref (Ea E 50))] [] w (f_X10_stand_55 w) := by
  unfold f_X10_stand_55
  refine sim_aload_n 0 dX10_stand_55 rfl rfl ?_
  refine sim_iconst (2 : Int32) dX10_stand_56 rfl rfl ?_
  refine sim_cVi (k := 50) (ci := 8) [.int (2 : Int32)] [] (c_X10_met hL (2 : Int32) w) (hL 50 rfl) rfl (by decide) rfl cb_X10_169 im_X10_met se_X10_met rfl rfl rfl (Nat.le_of_ble_eq_true rfl) dX10_stand_57 rfl (fun x3 w4 => ?_)
  exact sim_iret rfl dX10_stand_60
def b_X10_stand_74 (R : Int32 → Int32 → Int32 → Int32 → Wd → Option (Int32 × Wd)) (K95 : Int32 → Int32 → Int32 → Wd → Option (Int32 × Wd)) (v1 : Int32) (v2 : Int32) (v3 : Int32) (v4 : Int32) (w : Wd) : Option (Int32 × Wd) :=
  if (49 : Int32) ≤ v4 then
  K95 v1 v2 v3 w
  else
  if inb v4 784 = true then
  lw (wdI w 60 (Int32.toNatClampNeg v4) (0 : Int32)) fun w5 =>
  R v1 v2 v3 (v4 + (1 : Int32)) w5
  else none
set_option maxRecDepth 20000 in
theorem sb_X10_stand_74 {E : Ev} (hL : LM E) {R : Int32 → Int32 → Int32 → Int32 → Wd → Option (Int32 × Wd)} (hR : ∀ (v1 : Int32) (v2 : Int32) (v3 : Int32) (v4 : Int32) (w : Wd), Sim E m_X10_stand rI 74 [(0, .ref (Ea E 50)), (1, .int v1), (2, .int v2), (3, .int v3), (4, .int v4)] [] w (R v1 v2 v3 v4 w)) {K95 : Int32 → Int32 → Int32 → Wd → Option (Int32 × Wd)} (hK95 : ∀ (v1 : Int32) (v2 : Int32) (v3 : Int32) (w : Wd), Sim E m_X10_stand rI 95 [(0, .ref (Ea E 50)), (1, .int v1), (2, .int v2), (3, .int v3)] [] w (K95 v1 v2 v3 w)) (v1 : Int32) (v2 : Int32) (v3 : Int32) (v4 : Int32) (w : Wd) : Sim E m_X10_stand rI 74 [(0, .ref (Ea E 50)), (1, .int v1), (2, .int v2), (3, .int v3), (4, .int v4)] [] w (b_X10_stand_74 R K95 v1 v2 v3 v4 w) := by
  unfold b_X10_stand_74
  refine sim_iload 4 dX10_stand_74 rfl rfl ?_
  refine sim_bipush (49 : Int32) dX10_stand_76 rfl rfl ?_
  refine sim_icmp_ge 95 dX10_stand_78 rfl rfl (fun _ => ?_) (fun _ => ?_)
  · exact sim_sub [0, 1, 2, 3] rfl (hK95 v1 v2 v3 w)
  · refine sim_aload_n 0 dX10_stand_81 rfl rfl ?_
    refine sim_get (k := 50) (ci := 8) (j := 9) (v := .ref (Ea E 60)) (hL 50 rfl) rfl (by decide) fl_X10_31 rfl dX10_stand_82 rfl ?_
    refine sim_iload 4 dX10_stand_85 rfl rfl ?_
    refine sim_iconst (0 : Int32) dX10_stand_87 rfl rfl ?_
    refine sim_iastore (k := 60) (hL 60 rfl) rfl rfl dX10_stand_88 rfl ?_
    refine sim_lw (fun w5 => ?_)
    refine sim_iinc (v4 + (1 : Int32)) 4 [(4, .int (v4 + (1 : Int32))), (0, .ref (Ea E 50)), (1, .int v1), (2, .int v2), (3, .int v3)] dX10_stand_89 rfl rfl (Nat.le_of_ble_eq_true rfl) rfl rfl ?_
    refine sim_goto (q := 74) dX10_stand_92 rfl ?_
    exact sim_sub [1, 2, 3, 4, 0] rfl (hR v1 v2 v3 (v4 + (1 : Int32)) w5)
def l_X10_stand_74 (K95 : Int32 → Int32 → Int32 → Wd → Option (Int32 × Wd)) (n : Nat) : Int32 → Int32 → Int32 → Int32 → Wd → Option (Int32 × Wd) := itr (fun _ _ _ _ _ => none) (fun R => b_X10_stand_74 R K95) n
set_option maxRecDepth 20000 in
theorem sl_X10_stand_74 {E : Ev} (hL : LM E) {K95 : Int32 → Int32 → Int32 → Wd → Option (Int32 × Wd)} (hK95 : ∀ (v1 : Int32) (v2 : Int32) (v3 : Int32) (w : Wd), Sim E m_X10_stand rI 95 [(0, .ref (Ea E 50)), (1, .int v1), (2, .int v2), (3, .int v3)] [] w (K95 v1 v2 v3 w)) : ∀ (n : Nat) (v1 : Int32) (v2 : Int32) (v3 : Int32) (v4 : Int32) (w : Wd), Sim E m_X10_stand rI 74 [(0, .ref (Ea E 50)), (1, .int v1), (2, .int v2), (3, .int v3), (4, .int v4)] [] w (l_X10_stand_74 K95 n v1 v2 v3 v4 w) := by
  intro n
  induction n with
  | zero => intros; exact sim_none
  | succ n ih => intros; exact sb_X10_stand_74 hL (R := l_X10_stand_74 K95 n) ih hK95 _ _ _ _ _
def f_X10_stand_251 (R : Int32 → Int32 → Int32 → Int32 → Wd → Option (Int32 × Wd)) (K194 : Wd → Option (Int32 × Wd)) (K259 : Int32 → Int32 → Int32 → Wd → Option (Int32 × Wd)) (v1 : Int32) (v3 : Int32) (v4 : Int32) (s0 : Int32) (s1 : Int32) (w : Wd) : Option (Int32 × Wd) :=
  lt (s0 + s1) fun x10 =>
  R v1 x10 v3 (v4 + (1 : Int32)) w
set_option maxRecDepth 20000 in
theorem sf_X10_stand_251 {E : Ev} (hL : LM E) {R : Int32 → Int32 → Int32 → Int32 → Wd → Option (Int32 × Wd)} (hR : ∀ (v1 : Int32) (v2 : Int32) (v3 : Int32) (v4 : Int32) (w : Wd), Sim E m_X10_stand rI 98 [(0, .ref (Ea E 50)), (1, .int v1), (2, .int v2), (3, .int v3), (4, .int v4)] [] w (R v1 v2 v3 v4 w)) {K194 : Wd → Option (Int32 × Wd)} (hK194 : ∀ (w : Wd), Sim E m_X10_stand rI 194 [] [] w (K194  w)) {K259 : Int32 → Int32 → Int32 → Wd → Option (Int32 × Wd)} (hK259 : ∀ (v1 : Int32) (v2 : Int32) (v3 : Int32) (w : Wd), Sim E m_X10_stand rI 259 [(0, .ref (Ea E 50)), (1, .int v1), (2, .int v2), (3, .int v3)] [] w (K259 v1 v2 v3 w)) (v1 : Int32) (v3 : Int32) (v4 : Int32) (s0 : Int32) (s1 : Int32) (w : Wd) : Sim E m_X10_stand rI 251 [(0, .ref (Ea E 50)), (1, .int v1), (3, .int v3), (4, .int v4)] [.int s1, .int s0] w (f_X10_stand_251 R K194 K259 v1 v3 v4 s0 s1 w) := by
  unfold f_X10_stand_251
  refine sim_iadd dX10_stand_251 rfl ?_
  refine sim_lt (fun x10 => ?_)
  refine sim_istore_n [(2, .int x10), (0, .ref (Ea E 50)), (1, .int v1), (3, .int v3), (4, .int v4)] dX10_stand_252 (Nat.le_of_ble_eq_true rfl) rfl rfl ?_
  refine sim_iinc (v4 + (1 : Int32)) 4 [(4, .int (v4 + (1 : Int32))), (2, .int x10), (0, .ref (Ea E 50)), (1, .int v1), (3, .int v3)] dX10_stand_253 rfl rfl (Nat.le_of_ble_eq_true rfl) rfl rfl ?_
  refine sim_goto (q := 98) dX10_stand_256 rfl ?_
  exact sim_sub [2, 3, 1, 4, 0] rfl (hR v1 x10 v3 (v4 + (1 : Int32)) w)
def f_X10_stand_250 (R : Int32 → Int32 → Int32 → Int32 → Wd → Option (Int32 × Wd)) (K194 : Wd → Option (Int32 × Wd)) (K259 : Int32 → Int32 → Int32 → Wd → Option (Int32 × Wd)) (v1 : Int32) (v3 : Int32) (v4 : Int32) (s0 : Int32) (w : Wd) : Option (Int32 × Wd) :=
  f_X10_stand_251 R K194 K259 v1 v3 v4 s0 (0 : Int32) w
set_option maxRecDepth 20000 in
theorem sf_X10_stand_250 {E : Ev} (hL : LM E) {R : Int32 → Int32 → Int32 → Int32 → Wd → Option (Int32 × Wd)} (hR : ∀ (v1 : Int32) (v2 : Int32) (v3 : Int32) (v4 : Int32) (w : Wd), Sim E m_X10_stand rI 98 [(0, .ref (Ea E 50)), (1, .int v1), (2, .int v2), (3, .int v3), (4, .int v4)] [] w (R v1 v2 v3 v4 w)) {K194 : Wd → Option (Int32 × Wd)} (hK194 : ∀ (w : Wd), Sim E m_X10_stand rI 194 [] [] w (K194  w)) {K259 : Int32 → Int32 → Int32 → Wd → Option (Int32 × Wd)} (hK259 : ∀ (v1 : Int32) (v2 : Int32) (v3 : Int32) (w : Wd), Sim E m_X10_stand rI 259 [(0, .ref (Ea E 50)), (1, .int v1), (2, .int v2), (3, .int v3)] [] w (K259 v1 v2 v3 w)) (v1 : Int32) (v3 : Int32) (v4 : Int32) (s0 : Int32) (w : Wd) : Sim E m_X10_stand rI 250 [(0, .ref (Ea E 50)), (1, .int v1), (3, .int v3), (4, .int v4)] [.int s0] w (f_X10_stand_250 R K194 K259 v1 v3 v4 s0 w) := by
  unfold f_X10_stand_250
  refine sim_iconst (0 : Int32) dX10_stand_250 rfl rfl ?_
  exact sim_sub [0, 1, 2, 3] rfl (sf_X10_stand_251 hL hR hK194 hK259 v1 v3 v4 s0 (0 : Int32) w)
def f_X10_stand_217 (R : Int32 → Int32 → Int32 → Int32 → Wd → Option (Int32 × Wd)) (K194 : Wd → Option (Int32 × Wd)) (K259 : Int32 → Int32 → Int32 → Wd → Option (Int32 × Wd)) (v1 : Int32) (v2 : Int32) (v4 : Int32) (v5 : Int32) (s0 : Int32) (s1 : Int32) (w : Wd) : Option (Int32 × Wd) :=
  lt (s0 + s1) fun x9 =>
  if v5 ≤ (0 : Int32) then
  f_X10_stand_250 R K194 K259 v1 x9 v4 v2 w
  else
  bd (f_X10_kindOf v5 w) fun x11 w12 =>
  if x11 = (0 : Int32) then
  bd (f_X10_sideOf v5 w12) fun x13 w14 =>
  if x13 = (0 : Int32) then
  f_X10_stand_251 R K194 K259 v1 x9 v4 v2 (1 : Int32) w14
  else
  f_X10_stand_251 R K194 K259 v1 x9 v4 v2 (100 : Int32) w14
  else
  f_X10_stand_250 R K194 K259 v1 x9 v4 v2 w12
set_option maxRecDepth 20000 in
theorem sf_X10_stand_217 {E : Ev} (hL : LM E) {R : Int32 → Int32 → Int32 → Int32 → Wd → Option (Int32 × Wd)} (hR : ∀ (v1 : Int32) (v2 : Int32) (v3 : Int32) (v4 : Int32) (w : Wd), Sim E m_X10_stand rI 98 [(0, .ref (Ea E 50)), (1, .int v1), (2, .int v2), (3, .int v3), (4, .int v4)] [] w (R v1 v2 v3 v4 w)) {K194 : Wd → Option (Int32 × Wd)} (hK194 : ∀ (w : Wd), Sim E m_X10_stand rI 194 [] [] w (K194  w)) {K259 : Int32 → Int32 → Int32 → Wd → Option (Int32 × Wd)} (hK259 : ∀ (v1 : Int32) (v2 : Int32) (v3 : Int32) (w : Wd), Sim E m_X10_stand rI 259 [(0, .ref (Ea E 50)), (1, .int v1), (2, .int v2), (3, .int v3)] [] w (K259 v1 v2 v3 w)) (v1 : Int32) (v2 : Int32) (v4 : Int32) (v5 : Int32) (s0 : Int32) (s1 : Int32) (w : Wd) : Sim E m_X10_stand rI 217 [(0, .ref (Ea E 50)), (1, .int v1), (2, .int v2), (4, .int v4), (5, .int v5)] [.int s1, .int s0] w (f_X10_stand_217 R K194 K259 v1 v2 v4 v5 s0 s1 w) := by
  unfold f_X10_stand_217
  refine sim_iadd dX10_stand_217 rfl ?_
  refine sim_lt (fun x9 => ?_)
  refine sim_istore_n [(3, .int x9), (0, .ref (Ea E 50)), (1, .int v1), (2, .int v2), (4, .int v4), (5, .int v5)] dX10_stand_218 (Nat.le_of_ble_eq_true rfl) rfl rfl ?_
  refine sim_iload_n 3 dX10_stand_219 rfl rfl ?_
  refine sim_iload 5 dX10_stand_220 rfl rfl ?_
  refine sim_if_le 250 dX10_stand_222 rfl rfl (fun _ => ?_) (fun _ => ?_)
  · exact sim_sub [1, 2, 0, 4] rfl (sf_X10_stand_250 hL hR hK194 hK259 v1 x9 v4 v2 w)
  · refine sim_iload 5 dX10_stand_225 rfl rfl ?_
    refine sim_cSi [.int v5] [.int v2] (c_X10_kindOf hL v5 w) cb_X10_187 sx_X10_kindOf rfl rfl rfl (Nat.le_of_ble_eq_true rfl) dX10_stand_227 rfl (fun x11 w12 => ?_)
    refine sim_if_ne 250 dX10_stand_230 rfl rfl (fun _ => ?_) (fun _ => ?_)
    · exact sim_sub [1, 2, 0, 4] rfl (sf_X10_stand_250 hL hR hK194 hK259 v1 x9 v4 v2 w12)
    · refine sim_iload 5 dX10_stand_233 rfl rfl ?_
      refine sim_cSi [.int v5] [.int v2] (c_X10_sideOf hL v5 w12) cb_X10_193 sx_X10_sideOf rfl rfl rfl (Nat.le_of_ble_eq_true rfl) dX10_stand_235 rfl (fun x13 w14 => ?_)
      refine sim_if_ne 245 dX10_stand_238 rfl rfl (fun _ => ?_) (fun _ => ?_)
      · refine sim_bipush (100 : Int32) dX10_stand_245 rfl rfl ?_
        refine sim_goto (q := 251) dX10_stand_247 rfl ?_
        exact sim_sub [1, 2, 0, 4] rfl (sf_X10_stand_251 hL hR hK194 hK259 v1 x9 v4 v2 (100 : Int32) w14)
      · refine sim_iconst (1 : Int32) dX10_stand_241 rfl rfl ?_
        refine sim_goto (q := 251) dX10_stand_242 rfl ?_
        exact sim_sub [1, 2, 0, 4] rfl (sf_X10_stand_251 hL hR hK194 hK259 v1 x9 v4 v2 (1 : Int32) w14)
def f_X10_stand_197 (R : Int32 → Int32 → Int32 → Int32 → Wd → Option (Int32 × Wd)) (K194 : Wd → Option (Int32 × Wd)) (K259 : Int32 → Int32 → Int32 → Wd → Option (Int32 × Wd)) (v1 : Int32) (v2 : Int32) (v3 : Int32) (v4 : Int32) (v5 : Int32) (w : Wd) : Option (Int32 × Wd) :=
  if inb v4 784 = true then
  lw (wdI w 60 (Int32.toNatClampNeg v4) v5) fun w8 =>
  if v5 ≤ (0 : Int32) then
  f_X10_stand_217 R K194 K259 v1 v2 v4 v5 v3 (0 : Int32) w8
  else
  f_X10_stand_217 R K194 K259 v1 v2 v4 v5 v3 (1 : Int32) w8
  else none
set_option maxRecDepth 20000 in
theorem sf_X10_stand_197 {E : Ev} (hL : LM E) {R : Int32 → Int32 → Int32 → Int32 → Wd → Option (Int32 × Wd)} (hR : ∀ (v1 : Int32) (v2 : Int32) (v3 : Int32) (v4 : Int32) (w : Wd), Sim E m_X10_stand rI 98 [(0, .ref (Ea E 50)), (1, .int v1), (2, .int v2), (3, .int v3), (4, .int v4)] [] w (R v1 v2 v3 v4 w)) {K194 : Wd → Option (Int32 × Wd)} (hK194 : ∀ (w : Wd), Sim E m_X10_stand rI 194 [] [] w (K194  w)) {K259 : Int32 → Int32 → Int32 → Wd → Option (Int32 × Wd)} (hK259 : ∀ (v1 : Int32) (v2 : Int32) (v3 : Int32) (w : Wd), Sim E m_X10_stand rI 259 [(0, .ref (Ea E 50)), (1, .int v1), (2, .int v2), (3, .int v3)] [] w (K259 v1 v2 v3 w)) (v1 : Int32) (v2 : Int32) (v3 : Int32) (v4 : Int32) (v5 : Int32) (w : Wd) : Sim E m_X10_stand rI 197 [(0, .ref (Ea E 50)), (1, .int v1), (2, .int v2), (3, .int v3), (4, .int v4), (5, .int v5)] [] w (f_X10_stand_197 R K194 K259 v1 v2 v3 v4 v5 w) := by
  unfold f_X10_stand_197
  refine sim_aload_n 0 dX10_stand_197 rfl rfl ?_
  refine sim_get (k := 50) (ci := 8) (j := 9) (v := .ref (Ea E 60)) (hL 50 rfl) rfl (by decide) fl_X10_31 rfl dX10_stand_198 rfl ?_
  refine sim_iload 4 dX10_stand_201 rfl rfl ?_
  refine sim_iload 5 dX10_stand_203 rfl rfl ?_
  refine sim_iastore (k := 60) (hL 60 rfl) rfl rfl dX10_stand_205 rfl ?_
  refine sim_lw (fun w8 => ?_)
  refine sim_iload_n 3 dX10_stand_206 rfl rfl ?_
  refine sim_iload 5 dX10_stand_207 rfl rfl ?_
  refine sim_if_le 216 dX10_stand_209 rfl rfl (fun _ => ?_) (fun _ => ?_)
  · refine sim_iconst (0 : Int32) dX10_stand_216 rfl rfl ?_
    exact sim_sub [0, 1, 2, 4, 5] rfl (sf_X10_stand_217 hL hR hK194 hK259 v1 v2 v4 v5 v3 (0 : Int32) w8)
  · refine sim_iconst (1 : Int32) dX10_stand_212 rfl rfl ?_
    refine sim_goto (q := 217) dX10_stand_213 rfl ?_
    exact sim_sub [0, 1, 2, 4, 5] rfl (sf_X10_stand_217 hL hR hK194 hK259 v1 v2 v4 v5 v3 (1 : Int32) w8)
def f_X10_stand_154 (R : Int32 → Int32 → Int32 → Int32 → Wd → Option (Int32 × Wd)) (K194 : Wd → Option (Int32 × Wd)) (K259 : Int32 → Int32 → Int32 → Wd → Option (Int32 × Wd)) (v1 : Int32) (v2 : Int32) (v3 : Int32) (v4 : Int32) (s0 : Int32) (w : Wd) : Option (Int32 × Wd) :=
  bd (f_X10_in (Int32.toInt64 s0) (0 : Int64) (32 : Int64) w) fun x6 w7 =>
  if x6 = (0 : Int32) then
  K194 w7
  else
  if s0 ≤ (0 : Int32) then
  f_X10_stand_197 R K194 K259 v1 v2 v3 v4 s0 w7
  else
  bd (f_X10_isRaised s0 w7) fun x15 w16 =>
  if x15 = (0 : Int32) then
  f_X10_stand_197 R K194 K259 v1 v2 v3 v4 s0 w16
  else
  bd (f_X10_kindOf s0 w16) fun x17 w18 =>
  bd (f_X10_mayRaise x17 w18) fun x19 w20 =>
  if x19 = (0 : Int32) then
  K194 w20
  else
  f_X10_stand_197 R K194 K259 v1 v2 v3 v4 s0 w20
set_option maxRecDepth 20000 in
theorem sf_X10_stand_154 {E : Ev} (hL : LM E) {R : Int32 → Int32 → Int32 → Int32 → Wd → Option (Int32 × Wd)} (hR : ∀ (v1 : Int32) (v2 : Int32) (v3 : Int32) (v4 : Int32) (w : Wd), Sim E m_X10_stand rI 98 [(0, .ref (Ea E 50)), (1, .int v1), (2, .int v2), (3, .int v3), (4, .int v4)] [] w (R v1 v2 v3 v4 w)) {K194 : Wd → Option (Int32 × Wd)} (hK194 : ∀ (w : Wd), Sim E m_X10_stand rI 194 [] [] w (K194  w)) {K259 : Int32 → Int32 → Int32 → Wd → Option (Int32 × Wd)} (hK259 : ∀ (v1 : Int32) (v2 : Int32) (v3 : Int32) (w : Wd), Sim E m_X10_stand rI 259 [(0, .ref (Ea E 50)), (1, .int v1), (2, .int v2), (3, .int v3)] [] w (K259 v1 v2 v3 w)) (v1 : Int32) (v2 : Int32) (v3 : Int32) (v4 : Int32) (s0 : Int32) (w : Wd) : Sim E m_X10_stand rI 154 [(0, .ref (Ea E 50)), (1, .int v1), (2, .int v2), (3, .int v3), (4, .int v4)] [.int s0] w (f_X10_stand_154 R K194 K259 v1 v2 v3 v4 s0 w) := by
  unfold f_X10_stand_154
  refine sim_istore [(5, .int s0), (0, .ref (Ea E 50)), (1, .int v1), (2, .int v2), (3, .int v3), (4, .int v4)] dX10_stand_154 (Nat.le_of_ble_eq_true rfl) rfl rfl ?_
  refine sim_iload 0 dX10_stand_156 rfl rfl ?_
  refine sim_i2l dX10_stand_158 rfl ?_
  refine sim_lconst (0 : Int64) dX10_stand_159 rfl rfl ?_
  refine sim_ldc2 (32 : Int64) dX10_stand_160 k_X10_268 rfl ?_
  refine sim_cSi [.long (Int32.toInt64 s0), .long (0 : Int64), .long (32 : Int64)] [] (c_X10_in hL (Int32.toInt64 s0) (0 : Int64) (32 : Int64) w) cb_X10_139 sx_X10_in rfl rfl rfl (Nat.le_of_ble_eq_true rfl) dX10_stand_163 rfl (fun x6 w7 => ?_)
  refine sim_if_eq 194 dX10_stand_166 rfl rfl (fun _ => ?_) (fun _ => ?_)
  · exact sim_sub [] rfl (hK194 w7)
  · refine sim_iload 0 dX10_stand_169 rfl rfl ?_
    refine sim_if_le 197 dX10_stand_171 rfl rfl (fun _ => ?_) (fun _ => ?_)
    · exact sim_sub [1, 2, 3, 4, 5, 0] rfl (sf_X10_stand_197 hL hR hK194 hK259 v1 v2 v3 v4 s0 w7)
    · refine sim_iload 0 dX10_stand_174 rfl rfl ?_
      refine sim_cSi [.int s0] [] (c_X10_isRaised hL s0 w7) cb_X10_190 sx_X10_isRaised rfl rfl rfl (Nat.le_of_ble_eq_true rfl) dX10_stand_176 rfl (fun x15 w16 => ?_)
      refine sim_if_eq 197 dX10_stand_179 rfl rfl (fun _ => ?_) (fun _ => ?_)
      · exact sim_sub [1, 2, 3, 4, 5, 0] rfl (sf_X10_stand_197 hL hR hK194 hK259 v1 v2 v3 v4 s0 w16)
      · refine sim_aload_n 1 dX10_stand_182 rfl rfl ?_
        refine sim_iload 0 dX10_stand_183 rfl rfl ?_
        refine sim_cSi [.int s0] [.ref (Ea E 50)] (c_X10_kindOf hL s0 w16) cb_X10_187 sx_X10_kindOf rfl rfl rfl (Nat.le_of_ble_eq_true rfl) dX10_stand_185 rfl (fun x17 w18 => ?_)
        refine sim_cVi (k := 50) (ci := 8) [.int x17] [] (c_X10_mayRaise hL x17 w18) (hL 50 rfl) rfl (by decide) rfl cb_X10_211 im_X10_mayRaise se_X10_mayRaise rfl rfl rfl (Nat.le_of_ble_eq_true rfl) dX10_stand_188 rfl (fun x19 w20 => ?_)
        refine sim_if_ne 197 dX10_stand_191 rfl rfl (fun _ => ?_) (fun _ => ?_)
        · exact sim_sub [1, 2, 3, 4, 5, 0] rfl (sf_X10_stand_197 hL hR hK194 hK259 v1 v2 v3 v4 s0 w20)
        · exact sim_sub [] rfl (hK194 w20)
def b_X10_stand_98 (R : Int32 → Int32 → Int32 → Int32 → Wd → Option (Int32 × Wd)) (K194 : Wd → Option (Int32 × Wd)) (K259 : Int32 → Int32 → Int32 → Wd → Option (Int32 × Wd)) (v1 : Int32) (v2 : Int32) (v3 : Int32) (v4 : Int32) (w : Wd) : Option (Int32 × Wd) :=
  if ((w.1 50 0) * (w.1 50 0)) ≤ v4 then
  K259 v1 v2 v3 w
  else
  if ¬ (w.1 50 0) = (0 : Int32) then
  if inb (v4 / (w.1 50 0)) 7 = true then
  if (0 : Int32) ≤ (w.1 56 (Int32.toNatClampNeg (v4 / (w.1 50 0)))) then
  if ¬ (w.1 50 0) = (0 : Int32) then
  if ¬ (w.1 50 0) = (0 : Int32) then
  if inb (((12 : Int32) * (v4 / (w.1 50 0))) + (v4 - v4 / (w.1 50 0) * (w.1 50 0))) 84 = true then
  f_X10_stand_154 R K194 K259 v1 v2 v3 v4 (w.1 58 (Int32.toNatClampNeg (((12 : Int32) * (v4 / (w.1 50 0))) + (v4 - v4 / (w.1 50 0) * (w.1 50 0))))) w
  else none
  else none
  else none
  else
  f_X10_stand_154 R K194 K259 v1 v2 v3 v4 (0 : Int32) w
  else none
  else none
set_option maxRecDepth 20000 in
theorem sb_X10_stand_98 {E : Ev} (hL : LM E) {R : Int32 → Int32 → Int32 → Int32 → Wd → Option (Int32 × Wd)} (hR : ∀ (v1 : Int32) (v2 : Int32) (v3 : Int32) (v4 : Int32) (w : Wd), Sim E m_X10_stand rI 98 [(0, .ref (Ea E 50)), (1, .int v1), (2, .int v2), (3, .int v3), (4, .int v4)] [] w (R v1 v2 v3 v4 w)) {K194 : Wd → Option (Int32 × Wd)} (hK194 : ∀ (w : Wd), Sim E m_X10_stand rI 194 [] [] w (K194  w)) {K259 : Int32 → Int32 → Int32 → Wd → Option (Int32 × Wd)} (hK259 : ∀ (v1 : Int32) (v2 : Int32) (v3 : Int32) (w : Wd), Sim E m_X10_stand rI 259 [(0, .ref (Ea E 50)), (1, .int v1), (2, .int v2), (3, .int v3)] [] w (K259 v1 v2 v3 w)) (v1 : Int32) (v2 : Int32) (v3 : Int32) (v4 : Int32) (w : Wd) : Sim E m_X10_stand rI 98 [(0, .ref (Ea E 50)), (1, .int v1), (2, .int v2), (3, .int v3), (4, .int v4)] [] w (b_X10_stand_98 R K194 K259 v1 v2 v3 v4 w) := by
  unfold b_X10_stand_98
  refine sim_iload 4 dX10_stand_98 rfl rfl ?_
  refine sim_aload_n 0 dX10_stand_100 rfl rfl ?_
  refine sim_get (k := 50) (ci := 8) (j := 0) (v := .int (w.1 50 0)) (hL 50 rfl) rfl (by decide) fl_X10_143 rfl dX10_stand_101 rfl ?_
  refine sim_aload_n 0 dX10_stand_104 rfl rfl ?_
  refine sim_get (k := 50) (ci := 8) (j := 0) (v := .int (w.1 50 0)) (hL 50 rfl) rfl (by decide) fl_X10_143 rfl dX10_stand_105 rfl ?_
  refine sim_imul dX10_stand_108 rfl ?_
  refine sim_icmp_ge 259 dX10_stand_109 rfl rfl (fun _ => ?_) (fun _ => ?_)
  · exact sim_sub [0, 1, 2, 3] rfl (hK259 v1 v2 v3 w)
  · refine sim_aload_n 0 dX10_stand_112 rfl rfl ?_
    refine sim_get (k := 50) (ci := 8) (j := 5) (v := .ref (Ea E 56)) (hL 50 rfl) rfl (by decide) fl_X10_19 rfl dX10_stand_113 rfl ?_
    refine sim_iload 4 dX10_stand_116 rfl rfl ?_
    refine sim_aload_n 0 dX10_stand_118 rfl rfl ?_
    refine sim_get (k := 50) (ci := 8) (j := 0) (v := .int (w.1 50 0)) (hL 50 rfl) rfl (by decide) fl_X10_143 rfl dX10_stand_119 rfl ?_
    refine sim_idiv dX10_stand_122 rfl ?_
    refine sim_iaload (k := 56) (hL 56 rfl) rfl rfl dX10_stand_123 rfl ?_
    refine sim_if_ge 131 dX10_stand_124 rfl rfl (fun _ => ?_) (fun _ => ?_)
    · refine sim_aload_n 0 dX10_stand_131 rfl rfl ?_
      refine sim_get (k := 50) (ci := 8) (j := 7) (v := .ref (Ea E 58)) (hL 50 rfl) rfl (by decide) fl_X10_25 rfl dX10_stand_132 rfl ?_
      refine sim_bipush (12 : Int32) dX10_stand_135 rfl rfl ?_
      refine sim_iload 4 dX10_stand_137 rfl rfl ?_
      refine sim_aload_n 0 dX10_stand_139 rfl rfl ?_
      refine sim_get (k := 50) (ci := 8) (j := 0) (v := .int (w.1 50 0)) (hL 50 rfl) rfl (by decide) fl_X10_143 rfl dX10_stand_140 rfl ?_
      refine sim_idiv dX10_stand_143 rfl ?_
      refine sim_imul dX10_stand_144 rfl ?_
      refine sim_iload 4 dX10_stand_145 rfl rfl ?_
      refine sim_aload_n 0 dX10_stand_147 rfl rfl ?_
      refine sim_get (k := 50) (ci := 8) (j := 0) (v := .int (w.1 50 0)) (hL 50 rfl) rfl (by decide) fl_X10_143 rfl dX10_stand_148 rfl ?_
      refine sim_irem dX10_stand_151 rfl ?_
      refine sim_iadd dX10_stand_152 rfl ?_
      refine sim_iaload (k := 58) (hL 58 rfl) rfl rfl dX10_stand_153 rfl ?_
      exact sim_sub [0, 1, 2, 3, 4] rfl (sf_X10_stand_154 hL hR hK194 hK259 v1 v2 v3 v4 (w.1 58 (Int32.toNatClampNeg (((12 : Int32) * (v4 / (w.1 50 0))) + (v4 - v4 / (w.1 50 0) * (w.1 50 0))))) w)
    · refine sim_iconst (0 : Int32) dX10_stand_127 rfl rfl ?_
      refine sim_goto (q := 154) dX10_stand_128 rfl ?_
      exact sim_sub [0, 1, 2, 3, 4] rfl (sf_X10_stand_154 hL hR hK194 hK259 v1 v2 v3 v4 (0 : Int32) w)
def l_X10_stand_98 (K194 : Wd → Option (Int32 × Wd)) (K259 : Int32 → Int32 → Int32 → Wd → Option (Int32 × Wd)) (n : Nat) : Int32 → Int32 → Int32 → Int32 → Wd → Option (Int32 × Wd) := itr (fun _ _ _ _ _ => none) (fun R => b_X10_stand_98 R K194 K259) n
set_option maxRecDepth 20000 in
theorem sl_X10_stand_98 {E : Ev} (hL : LM E) {K194 : Wd → Option (Int32 × Wd)} (hK194 : ∀ (w : Wd), Sim E m_X10_stand rI 194 [] [] w (K194  w)) {K259 : Int32 → Int32 → Int32 → Wd → Option (Int32 × Wd)} (hK259 : ∀ (v1 : Int32) (v2 : Int32) (v3 : Int32) (w : Wd), Sim E m_X10_stand rI 259 [(0, .ref (Ea E 50)), (1, .int v1), (2, .int v2), (3, .int v3)] [] w (K259 v1 v2 v3 w)) : ∀ (n : Nat) (v1 : Int32) (v2 : Int32) (v3 : Int32) (v4 : Int32) (w : Wd), Sim E m_X10_stand rI 98 [(0, .ref (Ea E 50)), (1, .int v1), (2, .int v2), (3, .int v3), (4, .int v4)] [] w (l_X10_stand_98 K194 K259 n v1 v2 v3 v4 w) := by
  intro n
  induction n with
  | zero => intros; exact sim_none
  | succ n ih => intros; exact sb_X10_stand_98 hL (R := l_X10_stand_98 K194 K259 n) ih hK194 hK259 _ _ _ _ _
def f_X10_stand_194 (w : Wd) : Option (Int32 × Wd) :=
  some ((-2 : Int32), w)
set_option maxRecDepth 20000 in
theorem sf_X10_stand_194 {E : Ev} (hL : LM E) (w : Wd) : Sim E m_X10_stand rI 194 [] [] w (f_X10_stand_194 w) := by
  unfold f_X10_stand_194
  refine sim_bipush (-2 : Int32) dX10_stand_194 rfl rfl ?_
  exact sim_iret rfl dX10_stand_196
def b_X10_stand_262 (R : Int32 → Int32 → Int32 → Int32 → Wd → Option (Int32 × Wd)) (K289 : Int32 → Int32 → Int32 → Wd → Option (Int32 × Wd)) (v1 : Int32) (v2 : Int32) (v3 : Int32) (v4 : Int32) (w : Wd) : Option (Int32 × Wd) :=
  if (16 : Int32) ≤ v4 then
  K289 v1 v2 v3 w
  else
  if inb v4 16 = true then
  if inb v4 256 = true then
  lw (wdI w 61 (Int32.toNatClampNeg v4) (w.1 77 (Int32.toNatClampNeg v4))) fun w21 =>
  R v1 v2 v3 (v4 + (1 : Int32)) w21
  else none
  else none
set_option maxRecDepth 20000 in
theorem sb_X10_stand_262 {E : Ev} (hL : LM E) {R : Int32 → Int32 → Int32 → Int32 → Wd → Option (Int32 × Wd)} (hR : ∀ (v1 : Int32) (v2 : Int32) (v3 : Int32) (v4 : Int32) (w : Wd), Sim E m_X10_stand rI 262 [(0, .ref (Ea E 50)), (1, .int v1), (2, .int v2), (3, .int v3), (4, .int v4)] [] w (R v1 v2 v3 v4 w)) {K289 : Int32 → Int32 → Int32 → Wd → Option (Int32 × Wd)} (hK289 : ∀ (v1 : Int32) (v2 : Int32) (v3 : Int32) (w : Wd), Sim E m_X10_stand rI 289 [(0, .ref (Ea E 50)), (1, .int v1), (2, .int v2), (3, .int v3)] [] w (K289 v1 v2 v3 w)) (v1 : Int32) (v2 : Int32) (v3 : Int32) (v4 : Int32) (w : Wd) : Sim E m_X10_stand rI 262 [(0, .ref (Ea E 50)), (1, .int v1), (2, .int v2), (3, .int v3), (4, .int v4)] [] w (b_X10_stand_262 R K289 v1 v2 v3 v4 w) := by
  unfold b_X10_stand_262
  refine sim_iload 4 dX10_stand_262 rfl rfl ?_
  refine sim_bipush (16 : Int32) dX10_stand_264 rfl rfl ?_
  refine sim_icmp_ge 289 dX10_stand_266 rfl rfl (fun _ => ?_) (fun _ => ?_)
  · exact sim_sub [0, 1, 2, 3] rfl (hK289 v1 v2 v3 w)
  · refine sim_aload_n 0 dX10_stand_269 rfl rfl ?_
    refine sim_get (k := 50) (ci := 8) (j := 10) (v := .ref (Ea E 61)) (hL 50 rfl) rfl (by decide) fl_X10_34 rfl dX10_stand_270 rfl ?_
    refine sim_iload 4 dX10_stand_273 rfl rfl ?_
    refine sim_aload_n 0 dX10_stand_275 rfl rfl ?_
    refine sim_get (k := 50) (ci := 8) (j := 26) (v := .ref (Ea E 77)) (hL 50 rfl) rfl (by decide) fl_X10_77 rfl dX10_stand_276 rfl ?_
    refine sim_iload 4 dX10_stand_279 rfl rfl ?_
    refine sim_iaload (k := 77) (hL 77 rfl) rfl rfl dX10_stand_281 rfl ?_
    refine sim_iastore (k := 61) (hL 61 rfl) rfl rfl dX10_stand_282 rfl ?_
    refine sim_lw (fun w21 => ?_)
    refine sim_iinc (v4 + (1 : Int32)) 4 [(4, .int (v4 + (1 : Int32))), (0, .ref (Ea E 50)), (1, .int v1), (2, .int v2), (3, .int v3)] dX10_stand_283 rfl rfl (Nat.le_of_ble_eq_true rfl) rfl rfl ?_
    refine sim_goto (q := 262) dX10_stand_286 rfl ?_
    exact sim_sub [1, 2, 3, 4, 0] rfl (hR v1 v2 v3 (v4 + (1 : Int32)) w21)
def l_X10_stand_262 (K289 : Int32 → Int32 → Int32 → Wd → Option (Int32 × Wd)) (n : Nat) : Int32 → Int32 → Int32 → Int32 → Wd → Option (Int32 × Wd) := itr (fun _ _ _ _ _ => none) (fun R => b_X10_stand_262 R K289) n
set_option maxRecDepth 20000 in
theorem sl_X10_stand_262 {E : Ev} (hL : LM E) {K289 : Int32 → Int32 → Int32 → Wd → Option (Int32 × Wd)} (hK289 : ∀ (v1 : Int32) (v2 : Int32) (v3 : Int32) (w : Wd), Sim E m_X10_stand rI 289 [(0, .ref (Ea E 50)), (1, .int v1), (2, .int v2), (3, .int v3)] [] w (K289 v1 v2 v3 w)) : ∀ (n : Nat) (v1 : Int32) (v2 : Int32) (v3 : Int32) (v4 : Int32) (w : Wd), Sim E m_X10_stand rI 262 [(0, .ref (Ea E 50)), (1, .int v1), (2, .int v2), (3, .int v3), (4, .int v4)] [] w (l_X10_stand_262 K289 n v1 v2 v3 v4 w) := by
  intro n
  induction n with
  | zero => intros; exact sim_none
  | succ n ih => intros; exact sb_X10_stand_262 hL (R := l_X10_stand_262 K289 n) ih hK289 _ _ _ _ _
def f_X10_stand_313 (w : Wd) : Option (Int32 × Wd) :=
  some ((-2 : Int32), w)
set_option maxRecDepth 20000 in
theorem sf_X10_stand_313 {E : Ev} (hL : LM E) (w : Wd) : Sim E m_X10_stand rI 313 [] [] w (f_X10_stand_313 w) := by
  unfold f_X10_stand_313
  refine sim_bipush (-2 : Int32) dX10_stand_313 rfl rfl ?_
  exact sim_iret rfl dX10_stand_315
def f_X10_stand_289 (v1 : Int32) (v2 : Int32) (v3 : Int32) (w : Wd) : Option (Int32 × Wd) :=
  if inb (0 : Int32) 16 = true then
  lw (wdI w 62 (Int32.toNatClampNeg (0 : Int32)) v1) fun w22 =>
  if v2 = (101 : Int32) then
  bd (f_X10_inCheck (0 : Int32) ((1 : Int32) - v1) w22) fun x23 w24 =>
  if x23 = (0 : Int32) then
  lw (wdI w24 50 25 (1 : Int32)) fun w25 =>
  lw (wdI w25 50 35 (0 : Int32)) fun w26 =>
  lw (wdI w26 50 36 (0 : Int32)) fun w27 =>
  lw (wdI w27 50 37 (0 : Int32)) fun w28 =>
  bd (f_X10_keepStand (0 : Int32) (0 : Int32) w28) fun _ w29 =>
  bd (f_X10_stateOf (0 : Int32) (0 : Int32) w29) fun x30 w31 =>
  lw (wdI w31 50 38 x30) fun w32 =>
  some (v3, w32)
  else
  f_X10_stand_313 w24
  else
  f_X10_stand_313 w22
  else none
set_option maxRecDepth 20000 in
theorem sf_X10_stand_289 {E : Ev} (hL : LM E) (v1 : Int32) (v2 : Int32) (v3 : Int32) (w : Wd) : Sim E m_X10_stand rI 289 [(0, .ref (Ea E 50)), (1, .int v1), (2, .int v2), (3, .int v3)] [] w (f_X10_stand_289 v1 v2 v3 w) := by
  unfold f_X10_stand_289
  refine sim_aload_n 0 dX10_stand_289 rfl rfl ?_
  refine sim_get (k := 50) (ci := 8) (j := 11) (v := .ref (Ea E 62)) (hL 50 rfl) rfl (by decide) fl_X10_37 rfl dX10_stand_290 rfl ?_
  refine sim_iconst (0 : Int32) dX10_stand_293 rfl rfl ?_
  refine sim_iload_n 1 dX10_stand_294 rfl rfl ?_
  refine sim_iastore (k := 62) (hL 62 rfl) rfl rfl dX10_stand_295 rfl ?_
  refine sim_lw (fun w22 => ?_)
  refine sim_iload_n 2 dX10_stand_296 rfl rfl ?_
  refine sim_bipush (101 : Int32) dX10_stand_297 rfl rfl ?_
  refine sim_icmp_ne 313 dX10_stand_299 rfl rfl (fun _ => ?_) (fun _ => ?_)
  · exact sim_sub [] rfl (sf_X10_stand_313 hL w22)
  · refine sim_aload_n 0 dX10_stand_302 rfl rfl ?_
    refine sim_iconst (0 : Int32) dX10_stand_303 rfl rfl ?_
    refine sim_iconst (1 : Int32) dX10_stand_304 rfl rfl ?_
    refine sim_iload_n 1 dX10_stand_305 rfl rfl ?_
    refine sim_isub dX10_stand_306 rfl ?_
    refine sim_cVi (k := 50) (ci := 8) [.int (0 : Int32), .int ((1 : Int32) - v1)] [] (c_X10_inCheck hL (0 : Int32) ((1 : Int32) - v1) w22) (hL 50 rfl) rfl (by decide) rfl cb_X10_241 im_X10_inCheck se_X10_inCheck rfl rfl rfl (Nat.le_of_ble_eq_true rfl) dX10_stand_307 rfl (fun x23 w24 => ?_)
    refine sim_if_eq 316 dX10_stand_310 rfl rfl (fun _ => ?_) (fun _ => ?_)
    · refine sim_aload_n 0 dX10_stand_316 rfl rfl ?_
      refine sim_iconst (1 : Int32) dX10_stand_317 rfl rfl ?_
      refine sim_put (k := 50) (ci := 8) (j := 25) (hL 50 rfl) rfl (by decide) fp_X10_159 rfl rfl (st_50_25 _ _ _) (Nat.le_of_ble_eq_true rfl) dX10_stand_318 rfl ?_
      refine sim_lw (fun w25 => ?_)
      refine sim_aload_n 0 dX10_stand_321 rfl rfl ?_
      refine sim_iconst (0 : Int32) dX10_stand_322 rfl rfl ?_
      refine sim_put (k := 50) (ci := 8) (j := 35) (hL 50 rfl) rfl (by decide) fp_X10_270 rfl rfl (st_50_35 _ _ _) (Nat.le_of_ble_eq_true rfl) dX10_stand_323 rfl ?_
      refine sim_lw (fun w26 => ?_)
      refine sim_aload_n 0 dX10_stand_326 rfl rfl ?_
      refine sim_iconst (0 : Int32) dX10_stand_327 rfl rfl ?_
      refine sim_put (k := 50) (ci := 8) (j := 36) (hL 50 rfl) rfl (by decide) fp_X10_273 rfl rfl (st_50_36 _ _ _) (Nat.le_of_ble_eq_true rfl) dX10_stand_328 rfl ?_
      refine sim_lw (fun w27 => ?_)
      refine sim_aload_n 0 dX10_stand_331 rfl rfl ?_
      refine sim_iconst (0 : Int32) dX10_stand_332 rfl rfl ?_
      refine sim_put (k := 50) (ci := 8) (j := 37) (hL 50 rfl) rfl (by decide) fp_X10_276 rfl rfl (st_50_37 _ _ _) (Nat.le_of_ble_eq_true rfl) dX10_stand_333 rfl ?_
      refine sim_lw (fun w28 => ?_)
      refine sim_aload_n 0 dX10_stand_336 rfl rfl ?_
      refine sim_iconst (0 : Int32) dX10_stand_337 rfl rfl ?_
      refine sim_iconst (0 : Int32) dX10_stand_338 rfl rfl ?_
      refine sim_cVv (k := 50) (ci := 8) [.int (0 : Int32), .int (0 : Int32)] [] (c_X10_keepStand hL (0 : Int32) (0 : Int32) w28) (hL 50 rfl) rfl (by decide) rfl cb_X10_279 im_X10_keepStand se_X10_keepStand rfl rfl rfl (Nat.le_of_ble_eq_true rfl) dX10_stand_339 rfl (fun _ w29 => ?_)
      refine sim_aload_n 0 dX10_stand_342 rfl rfl ?_
      refine sim_aload_n 0 dX10_stand_343 rfl rfl ?_
      refine sim_iconst (0 : Int32) dX10_stand_344 rfl rfl ?_
      refine sim_iconst (0 : Int32) dX10_stand_345 rfl rfl ?_
      refine sim_cVi (k := 50) (ci := 8) [.int (0 : Int32), .int (0 : Int32)] [.ref (Ea E 50)] (c_X10_stateOf hL (0 : Int32) (0 : Int32) w29) (hL 50 rfl) rfl (by decide) rfl cb_X10_283 im_X10_stateOf se_X10_stateOf rfl rfl rfl (Nat.le_of_ble_eq_true rfl) dX10_stand_346 rfl (fun x30 w31 => ?_)
      refine sim_put (k := 50) (ci := 8) (j := 38) (hL 50 rfl) rfl (by decide) fp_X10_286 rfl rfl (st_50_38 _ _ _) (Nat.le_of_ble_eq_true rfl) dX10_stand_349 rfl ?_
      refine sim_lw (fun w32 => ?_)
      refine sim_iload_n 3 dX10_stand_352 rfl rfl ?_
      exact sim_iret rfl dX10_stand_353
    · exact sim_sub [] rfl (sf_X10_stand_313 hL w24)
def f_X10_stand_259 (v1 : Int32) (v2 : Int32) (v3 : Int32) (w : Wd) : Option (Int32 × Wd) :=
  l_X10_stand_262 f_X10_stand_289 FU v1 v2 v3 (0 : Int32) w
set_option maxRecDepth 20000 in
theorem sf_X10_stand_259 {E : Ev} (hL : LM E) (v1 : Int32) (v2 : Int32) (v3 : Int32) (w : Wd) : Sim E m_X10_stand rI 259 [(0, .ref (Ea E 50)), (1, .int v1), (2, .int v2), (3, .int v3)] [] w (f_X10_stand_259 v1 v2 v3 w) := by
  unfold f_X10_stand_259
  refine sim_iconst (0 : Int32) dX10_stand_259 rfl rfl ?_
  refine sim_istore [(4, .int (0 : Int32)), (0, .ref (Ea E 50)), (1, .int v1), (2, .int v2), (3, .int v3)] dX10_stand_260 (Nat.le_of_ble_eq_true rfl) rfl rfl ?_
  exact sim_sub [1, 2, 3, 4, 0] rfl (sl_X10_stand_262 hL (sf_X10_stand_289 hL) FU v1 v2 v3 (0 : Int32) w)
def f_X10_stand_95 (v1 : Int32) (v2 : Int32) (v3 : Int32) (w : Wd) : Option (Int32 × Wd) :=
  l_X10_stand_98 f_X10_stand_194 f_X10_stand_259 FU v1 v2 v3 (0 : Int32) w
set_option maxRecDepth 20000 in
theorem sf_X10_stand_95 {E : Ev} (hL : LM E) (v1 : Int32) (v2 : Int32) (v3 : Int32) (w : Wd) : Sim E m_X10_stand rI 95 [(0, .ref (Ea E 50)), (1, .int v1), (2, .int v2), (3, .int v3)] [] w (f_X10_stand_95 v1 v2 v3 w) := by
  unfold f_X10_stand_95
  refine sim_iconst (0 : Int32) dX10_stand_95 rfl rfl ?_
  refine sim_istore [(4, .int (0 : Int32)), (0, .ref (Ea E 50)), (1, .int v1), (2, .int v2), (3, .int v3)] dX10_stand_96 (Nat.le_of_ble_eq_true rfl) rfl rfl ?_
  exact sim_sub [1, 2, 3, 4, 0] rfl (sl_X10_stand_98 hL (sf_X10_stand_194 hL) (sf_X10_stand_259 hL) FU v1 v2 v3 (0 : Int32) w)
def f_X10_stand_67 (v1 : Int32) (w : Wd) : Option (Int32 × Wd) :=
  l_X10_stand_74 f_X10_stand_95 FU v1 (0 : Int32) (0 : Int32) (0 : Int32) w
set_option maxRecDepth 20000 in
theorem sf_X10_stand_67 {E : Ev} (hL : LM E) (v1 : Int32) (w : Wd) : Sim E m_X10_stand rI 67 [(0, .ref (Ea E 50)), (1, .int v1)] [] w (f_X10_stand_67 v1 w) := by
  unfold f_X10_stand_67
  refine sim_iconst (0 : Int32) dX10_stand_67 rfl rfl ?_
  refine sim_istore_n [(2, .int (0 : Int32)), (0, .ref (Ea E 50)), (1, .int v1)] dX10_stand_68 (Nat.le_of_ble_eq_true rfl) rfl rfl ?_
  refine sim_iconst (0 : Int32) dX10_stand_69 rfl rfl ?_
  refine sim_istore_n [(3, .int (0 : Int32)), (2, .int (0 : Int32)), (0, .ref (Ea E 50)), (1, .int v1)] dX10_stand_70 (Nat.le_of_ble_eq_true rfl) rfl rfl ?_
  refine sim_iconst (0 : Int32) dX10_stand_71 rfl rfl ?_
  refine sim_istore [(4, .int (0 : Int32)), (3, .int (0 : Int32)), (2, .int (0 : Int32)), (0, .ref (Ea E 50)), (1, .int v1)] dX10_stand_72 (Nat.le_of_ble_eq_true rfl) rfl rfl ?_
  exact sim_sub [3, 4, 2, 1, 0] rfl (sl_X10_stand_74 hL (sf_X10_stand_95 hL) FU v1 (0 : Int32) (0 : Int32) (0 : Int32) w)
def f_X10_stand (v1 : Int32) (w : Wd) : Option (Int32 × Wd) :=
  bd (f_X10_in (Int32.toInt64 v1) (0 : Int64) (1 : Int64) w) fun x1 w2 =>
  if x1 = (0 : Int32) then
  some ((-2 : Int32), w2)
  else
  if (w2.1 50 25) = (0 : Int32) then
  l_X10_stand_25 f_X10_stand_55 f_X10_stand_67 FU v1 (0 : Int32) w2
  else
  some ((-3 : Int32), w2)
set_option maxRecDepth 20000 in
theorem c_X10_stand {E : Ev} (hL : LM E) (v1 : Int32) (w : Wd) : Ct E m_X10_stand yX10_stand rI [.ref (Ea E 50), .int v1] w (f_X10_stand v1 w) := by
  refine Ct.of (by decide) ⟨rfl, rfl⟩ (Nat.le_of_ble_eq_true rfl) ?_
  show Sim E m_X10_stand rI 0 [(0, .ref (Ea E 50)), (1, .int v1)] [] w (f_X10_stand v1 w)
  unfold f_X10_stand
  refine sim_iload_n 1 dX10_stand_0 rfl rfl ?_
  refine sim_i2l dX10_stand_1 rfl ?_
  refine sim_lconst (0 : Int64) dX10_stand_2 rfl rfl ?_
  refine sim_lconst (1 : Int64) dX10_stand_3 rfl rfl ?_
  refine sim_cSi [.long (Int32.toInt64 v1), .long (0 : Int64), .long (1 : Int64)] [] (c_X10_in hL (Int32.toInt64 v1) (0 : Int64) (1 : Int64) w) cb_X10_139 sx_X10_in rfl rfl rfl (Nat.le_of_ble_eq_true rfl) dX10_stand_4 rfl (fun x1 w2 => ?_)
  refine sim_if_ne 13 dX10_stand_7 rfl rfl (fun _ => ?_) (fun _ => ?_)
  · refine sim_aload_n 0 dX10_stand_13 rfl rfl ?_
    refine sim_get (k := 50) (ci := 8) (j := 25) (v := .int (w2.1 50 25)) (hL 50 rfl) rfl (by decide) fl_X10_159 rfl dX10_stand_14 rfl ?_
    refine sim_if_eq 23 dX10_stand_17 rfl rfl (fun _ => ?_) (fun _ => ?_)
    · refine sim_iconst (0 : Int32) dX10_stand_23 rfl rfl ?_
      refine sim_istore_n [(2, .int (0 : Int32)), (0, .ref (Ea E 50)), (1, .int v1)] dX10_stand_24 (Nat.le_of_ble_eq_true rfl) rfl rfl ?_
      exact sim_sub [1, 2, 0] rfl (sl_X10_stand_25 hL (sf_X10_stand_55 hL) (sf_X10_stand_67 hL) FU v1 (0 : Int32) w2)
    · refine sim_bipush (-3 : Int32) dX10_stand_20 rfl rfl ?_
      exact sim_iret rfl dX10_stand_22
  · refine sim_bipush (-2 : Int32) dX10_stand_10 rfl rfl ?_
    exact sim_iret rfl dX10_stand_12
def f_X10_clear (w : Wd) : Option (Int32 × Wd) :=
  if (w.1 50 25) = (0 : Int32) then
  some ((-3 : Int32), w)
  else
  lw (wdI w 50 25 (0 : Int32)) fun w1 =>
  lw (wdI w1 50 41 (0 : Int32)) fun w2 =>
  some ((w2.1 50 36), w2)
set_option maxRecDepth 20000 in
theorem c_X10_clear {E : Ev} (hL : LM E) (w : Wd) : Ct E m_X10_clear yX10_clear rI [.ref (Ea E 50)] w (f_X10_clear w) := by
  refine Ct.of (by decide) ⟨rfl, rfl⟩ (Nat.le_of_ble_eq_true rfl) ?_
  show Sim E m_X10_clear rI 0 [(0, .ref (Ea E 50))] [] w (f_X10_clear w)
  unfold f_X10_clear
  refine sim_aload_n 0 dX10_clear_0 rfl rfl ?_
  refine sim_get (k := 50) (ci := 8) (j := 25) (v := .int (w.1 50 25)) (hL 50 rfl) rfl (by decide) fl_X10_159 rfl dX10_clear_1 rfl ?_
  refine sim_if_ne 10 dX10_clear_4 rfl rfl (fun _ => ?_) (fun _ => ?_)
  · refine sim_aload_n 0 dX10_clear_10 rfl rfl ?_
    refine sim_iconst (0 : Int32) dX10_clear_11 rfl rfl ?_
    refine sim_put (k := 50) (ci := 8) (j := 25) (hL 50 rfl) rfl (by decide) fp_X10_159 rfl rfl (st_50_25 _ _ _) (Nat.le_of_ble_eq_true rfl) dX10_clear_12 rfl ?_
    refine sim_lw (fun w1 => ?_)
    refine sim_aload_n 0 dX10_clear_15 rfl rfl ?_
    refine sim_iconst (0 : Int32) dX10_clear_16 rfl rfl ?_
    refine sim_put (k := 50) (ci := 8) (j := 41) (hL 50 rfl) rfl (by decide) fp_X10_289 rfl rfl (st_50_41 _ _ _) (Nat.le_of_ble_eq_true rfl) dX10_clear_17 rfl ?_
    refine sim_lw (fun w2 => ?_)
    refine sim_aload_n 0 dX10_clear_20 rfl rfl ?_
    refine sim_get (k := 50) (ci := 8) (j := 36) (v := .int (w2.1 50 36)) (hL 50 rfl) rfl (by decide) fl_X10_273 rfl dX10_clear_21 rfl ?_
    exact sim_iret rfl dX10_clear_24
  · refine sim_bipush (-3 : Int32) dX10_clear_7 rfl rfl ?_
    exact sim_iret rfl dX10_clear_9
def f_X10_isField (v1 : Int32) (w : Wd) : Option (Int32 × Wd) :=
  bd (f_X10_in (Int32.toInt64 v1) (0 : Int64) (Int32.toInt64 (((w.1 50 0) * (w.1 50 0)) - (1 : Int32))) w) fun x1 w2 =>
  if zb x1 = true then some (x1, w2) else none
set_option maxRecDepth 20000 in
theorem c_X10_isField {E : Ev} (hL : LM E) (v1 : Int32) (w : Wd) : Ct E m_X10_isField yX10_isField rI [.ref (Ea E 50), .int v1] w (f_X10_isField v1 w) := by
  refine Ct.of (by decide) ⟨rfl, rfl⟩ (Nat.le_of_ble_eq_true rfl) ?_
  show Sim E m_X10_isField rI 0 [(0, .ref (Ea E 50)), (1, .int v1)] [] w (f_X10_isField v1 w)
  unfold f_X10_isField
  refine sim_iload_n 1 dX10_isField_0 rfl rfl ?_
  refine sim_i2l dX10_isField_1 rfl ?_
  refine sim_lconst (0 : Int64) dX10_isField_2 rfl rfl ?_
  refine sim_aload_n 0 dX10_isField_3 rfl rfl ?_
  refine sim_get (k := 50) (ci := 8) (j := 0) (v := .int (w.1 50 0)) (hL 50 rfl) rfl (by decide) fl_X10_143 rfl dX10_isField_4 rfl ?_
  refine sim_aload_n 0 dX10_isField_7 rfl rfl ?_
  refine sim_get (k := 50) (ci := 8) (j := 0) (v := .int (w.1 50 0)) (hL 50 rfl) rfl (by decide) fl_X10_143 rfl dX10_isField_8 rfl ?_
  refine sim_imul dX10_isField_11 rfl ?_
  refine sim_iconst (1 : Int32) dX10_isField_12 rfl rfl ?_
  refine sim_isub dX10_isField_13 rfl ?_
  refine sim_i2l dX10_isField_14 rfl ?_
  refine sim_cSi [.long (Int32.toInt64 v1), .long (0 : Int64), .long (Int32.toInt64 (((w.1 50 0) * (w.1 50 0)) - (1 : Int32)))] [] (c_X10_in hL (Int32.toInt64 v1) (0 : Int64) (Int32.toInt64 (((w.1 50 0) * (w.1 50 0)) - (1 : Int32))) w) cb_X10_139 sx_X10_in rfl rfl rfl (Nat.le_of_ble_eq_true rfl) dX10_isField_15 rfl (fun x1 w2 => ?_)
  exact sim_zret rfl dX10_isField_18
def f_X10_field_26 (s0 : Int32) (w : Wd) : Option (Int32 × Wd) :=
  some (s0, w)
set_option maxRecDepth 20000 in
theorem sf_X10_field_26 {E : Ev} (hL : LM E) (s0 : Int32) (w : Wd) : Sim E m_X10_field rI 26 [] [.int s0] w (f_X10_field_26 s0 w) := by
  unfold f_X10_field_26
  exact sim_iret rfl dX10_field_26
def f_X10_field_24 (w : Wd) : Option (Int32 × Wd) :=
  f_X10_field_26 (-2 : Int32) w
set_option maxRecDepth 20000 in
theorem sf_X10_field_24 {E : Ev} (hL : LM E) (w : Wd) : Sim E m_X10_field rI 24 [] [] w (f_X10_field_24 w) := by
  unfold f_X10_field_24
  refine sim_bipush (-2 : Int32) dX10_field_24 rfl rfl ?_
  exact sim_sub [] rfl (sf_X10_field_26 hL (-2 : Int32) w)
def f_X10_field (v1 : Int32) (w : Wd) : Option (Int32 × Wd) :=
  bd (f_X10_isField v1 w) fun x1 w2 =>
  if x1 = (0 : Int32) then
  f_X10_field_24 w2
  else
  if (w2.1 50 25) = (0 : Int32) then
  f_X10_field_24 w2
  else
  if inb v1 784 = true then
  f_X10_field_26 (w2.1 60 (Int32.toNatClampNeg v1)) w2
  else none
set_option maxRecDepth 20000 in
theorem c_X10_field {E : Ev} (hL : LM E) (v1 : Int32) (w : Wd) : Ct E m_X10_field yX10_field rI [.ref (Ea E 50), .int v1] w (f_X10_field v1 w) := by
  refine Ct.of (by decide) ⟨rfl, rfl⟩ (Nat.le_of_ble_eq_true rfl) ?_
  show Sim E m_X10_field rI 0 [(0, .ref (Ea E 50)), (1, .int v1)] [] w (f_X10_field v1 w)
  unfold f_X10_field
  refine sim_aload_n 0 dX10_field_0 rfl rfl ?_
  refine sim_iload_n 1 dX10_field_1 rfl rfl ?_
  refine sim_cVi (k := 50) (ci := 8) [.int v1] [] (c_X10_isField hL v1 w) (hL 50 rfl) rfl (by decide) rfl cb_X10_292 im_X10_isField se_X10_isField rfl rfl rfl (Nat.le_of_ble_eq_true rfl) dX10_field_2 rfl (fun x1 w2 => ?_)
  refine sim_if_eq 24 dX10_field_5 rfl rfl (fun _ => ?_) (fun _ => ?_)
  · exact sim_sub [] rfl (sf_X10_field_24 hL w2)
  · refine sim_aload_n 0 dX10_field_8 rfl rfl ?_
    refine sim_get (k := 50) (ci := 8) (j := 25) (v := .int (w2.1 50 25)) (hL 50 rfl) rfl (by decide) fl_X10_159 rfl dX10_field_9 rfl ?_
    refine sim_if_eq 24 dX10_field_12 rfl rfl (fun _ => ?_) (fun _ => ?_)
    · exact sim_sub [] rfl (sf_X10_field_24 hL w2)
    · refine sim_aload_n 0 dX10_field_15 rfl rfl ?_
      refine sim_get (k := 50) (ci := 8) (j := 9) (v := .ref (Ea E 60)) (hL 50 rfl) rfl (by decide) fl_X10_31 rfl dX10_field_16 rfl ?_
      refine sim_iload_n 1 dX10_field_19 rfl rfl ?_
      refine sim_iaload (k := 60) (hL 60 rfl) rfl rfl dX10_field_20 rfl ?_
      refine sim_goto (q := 26) dX10_field_21 rfl ?_
      exact sim_sub [] rfl (sf_X10_field_26 hL (w2.1 60 (Int32.toNatClampNeg v1)) w2)
def f_X10_has_22 (w : Wd) : Option (Int32 × Wd) :=
  some ((-2 : Int32), w)
set_option maxRecDepth 20000 in
theorem sf_X10_has_22 {E : Ev} (hL : LM E) (w : Wd) : Sim E m_X10_has rI 22 [] [] w (f_X10_has_22 w) := by
  unfold f_X10_has_22
  refine sim_bipush (-2 : Int32) dX10_has_22 rfl rfl ?_
  exact sim_iret rfl dX10_has_24
def f_X10_has_57 (s0 : Int32) (w : Wd) : Option (Int32 × Wd) :=
  some (s0, w)
set_option maxRecDepth 20000 in
theorem sf_X10_has_57 {E : Ev} (hL : LM E) (s0 : Int32) (w : Wd) : Sim E m_X10_has rI 57 [] [.int s0] w (f_X10_has_57 s0 w) := by
  unfold f_X10_has_57
  exact sim_iret rfl dX10_has_57
def f_X10_has (v1 : Int32) (v2 : Int32) (w : Wd) : Option (Int32 × Wd) :=
  bd (f_X10_in (Int32.toInt64 v1) (0 : Int64) (1 : Int64) w) fun x1 w2 =>
  if x1 = (0 : Int32) then
  f_X10_has_22 w2
  else
  bd (f_X10_in (Int32.toInt64 v2) (1 : Int64) (7 : Int64) w2) fun x3 w4 =>
  if x3 = (0 : Int32) then
  f_X10_has_22 w4
  else
  if (w4.1 50 25) = (0 : Int32) then
  if inb (((8 : Int32) * v1) + v2) 16 = true then
  f_X10_has_57 (w4.1 77 (Int32.toNatClampNeg (((8 : Int32) * v1) + v2))) w4
  else none
  else
  if inb (((8 : Int32) * v1) + v2) 256 = true then
  f_X10_has_57 (w4.1 61 (Int32.toNatClampNeg (((8 : Int32) * v1) + v2))) w4
  else none
set_option maxRecDepth 20000 in
theorem c_X10_has {E : Ev} (hL : LM E) (v1 : Int32) (v2 : Int32) (w : Wd) : Ct E m_X10_has yX10_has rI [.ref (Ea E 50), .int v1, .int v2] w (f_X10_has v1 v2 w) := by
  refine Ct.of (by decide) ⟨rfl, rfl⟩ (Nat.le_of_ble_eq_true rfl) ?_
  show Sim E m_X10_has rI 0 [(0, .ref (Ea E 50)), (1, .int v1), (2, .int v2)] [] w (f_X10_has v1 v2 w)
  unfold f_X10_has
  refine sim_iload_n 1 dX10_has_0 rfl rfl ?_
  refine sim_i2l dX10_has_1 rfl ?_
  refine sim_lconst (0 : Int64) dX10_has_2 rfl rfl ?_
  refine sim_lconst (1 : Int64) dX10_has_3 rfl rfl ?_
  refine sim_cSi [.long (Int32.toInt64 v1), .long (0 : Int64), .long (1 : Int64)] [] (c_X10_in hL (Int32.toInt64 v1) (0 : Int64) (1 : Int64) w) cb_X10_139 sx_X10_in rfl rfl rfl (Nat.le_of_ble_eq_true rfl) dX10_has_4 rfl (fun x1 w2 => ?_)
  refine sim_if_eq 22 dX10_has_7 rfl rfl (fun _ => ?_) (fun _ => ?_)
  · exact sim_sub [] rfl (sf_X10_has_22 hL w2)
  · refine sim_iload_n 2 dX10_has_10 rfl rfl ?_
    refine sim_i2l dX10_has_11 rfl ?_
    refine sim_lconst (1 : Int64) dX10_has_12 rfl rfl ?_
    refine sim_ldc2 (7 : Int64) dX10_has_13 k_X10_137 rfl ?_
    refine sim_cSi [.long (Int32.toInt64 v2), .long (1 : Int64), .long (7 : Int64)] [] (c_X10_in hL (Int32.toInt64 v2) (1 : Int64) (7 : Int64) w2) cb_X10_139 sx_X10_in rfl rfl rfl (Nat.le_of_ble_eq_true rfl) dX10_has_16 rfl (fun x3 w4 => ?_)
    refine sim_if_ne 25 dX10_has_19 rfl rfl (fun _ => ?_) (fun _ => ?_)
    · refine sim_aload_n 0 dX10_has_25 rfl rfl ?_
      refine sim_get (k := 50) (ci := 8) (j := 25) (v := .int (w4.1 50 25)) (hL 50 rfl) rfl (by decide) fl_X10_159 rfl dX10_has_26 rfl ?_
      refine sim_if_eq 46 dX10_has_29 rfl rfl (fun _ => ?_) (fun _ => ?_)
      · refine sim_aload_n 0 dX10_has_46 rfl rfl ?_
        refine sim_get (k := 50) (ci := 8) (j := 26) (v := .ref (Ea E 77)) (hL 50 rfl) rfl (by decide) fl_X10_77 rfl dX10_has_47 rfl ?_
        refine sim_bipush (8 : Int32) dX10_has_50 rfl rfl ?_
        refine sim_iload_n 1 dX10_has_52 rfl rfl ?_
        refine sim_imul dX10_has_53 rfl ?_
        refine sim_iload_n 2 dX10_has_54 rfl rfl ?_
        refine sim_iadd dX10_has_55 rfl ?_
        refine sim_iaload (k := 77) (hL 77 rfl) rfl rfl dX10_has_56 rfl ?_
        exact sim_sub [] rfl (sf_X10_has_57 hL (w4.1 77 (Int32.toNatClampNeg (((8 : Int32) * v1) + v2))) w4)
      · refine sim_aload_n 0 dX10_has_32 rfl rfl ?_
        refine sim_get (k := 50) (ci := 8) (j := 10) (v := .ref (Ea E 61)) (hL 50 rfl) rfl (by decide) fl_X10_34 rfl dX10_has_33 rfl ?_
        refine sim_bipush (8 : Int32) dX10_has_36 rfl rfl ?_
        refine sim_iload_n 1 dX10_has_38 rfl rfl ?_
        refine sim_imul dX10_has_39 rfl ?_
        refine sim_iload_n 2 dX10_has_40 rfl rfl ?_
        refine sim_iadd dX10_has_41 rfl ?_
        refine sim_iaload (k := 61) (hL 61 rfl) rfl rfl dX10_has_42 rfl ?_
        refine sim_goto (q := 57) dX10_has_43 rfl ?_
        exact sim_sub [] rfl (sf_X10_has_57 hL (w4.1 61 (Int32.toNatClampNeg (((8 : Int32) * v1) + v2))) w4)
    · exact sim_sub [] rfl (sf_X10_has_22 hL w4)
def f_X10_attacks_18 (w : Wd) : Option (Int32 × Wd) :=
  some ((-2 : Int32), w)
set_option maxRecDepth 20000 in
theorem sf_X10_attacks_18 {E : Ev} (hL : LM E) (w : Wd) : Sim E m_X10_attacks rI 18 [] [] w (f_X10_attacks_18 w) := by
  unfold f_X10_attacks_18
  refine sim_bipush (-2 : Int32) dX10_attacks_18 rfl rfl ?_
  exact sim_iret rfl dX10_attacks_20
def f_X10_attacks_48 (s0 : Int32) (w : Wd) : Option (Int32 × Wd) :=
  some (s0, w)
set_option maxRecDepth 20000 in
theorem sf_X10_attacks_48 {E : Ev} (hL : LM E) (s0 : Int32) (w : Wd) : Sim E m_X10_attacks rI 48 [] [.int s0] w (f_X10_attacks_48 s0 w) := by
  unfold f_X10_attacks_48
  exact sim_iret rfl dX10_attacks_48
def f_X10_attacks (v1 : Int32) (v2 : Int32) (w : Wd) : Option (Int32 × Wd) :=
  bd (f_X10_in (Int32.toInt64 v1) (0 : Int64) (1 : Int64) w) fun x1 w2 =>
  if x1 = (0 : Int32) then
  f_X10_attacks_18 w2
  else
  bd (f_X10_isField v2 w2) fun x3 w4 =>
  if x3 = (0 : Int32) then
  f_X10_attacks_18 w4
  else
  if (w4.1 50 25) = (0 : Int32) then
  f_X10_attacks_48 (-3 : Int32) w4
  else
  bd (f_X10_isAttacked (0 : Int32) v1 v2 w4) fun x5 w6 =>
  if x5 = (0 : Int32) then
  f_X10_attacks_48 (0 : Int32) w6
  else
  f_X10_attacks_48 (1 : Int32) w6
set_option maxRecDepth 20000 in
theorem c_X10_attacks {E : Ev} (hL : LM E) (v1 : Int32) (v2 : Int32) (w : Wd) : Ct E m_X10_attacks yX10_attacks rI [.ref (Ea E 50), .int v1, .int v2] w (f_X10_attacks v1 v2 w) := by
  refine Ct.of (by decide) ⟨rfl, rfl⟩ (Nat.le_of_ble_eq_true rfl) ?_
  show Sim E m_X10_attacks rI 0 [(0, .ref (Ea E 50)), (1, .int v1), (2, .int v2)] [] w (f_X10_attacks v1 v2 w)
  unfold f_X10_attacks
  refine sim_iload_n 1 dX10_attacks_0 rfl rfl ?_
  refine sim_i2l dX10_attacks_1 rfl ?_
  refine sim_lconst (0 : Int64) dX10_attacks_2 rfl rfl ?_
  refine sim_lconst (1 : Int64) dX10_attacks_3 rfl rfl ?_
  refine sim_cSi [.long (Int32.toInt64 v1), .long (0 : Int64), .long (1 : Int64)] [] (c_X10_in hL (Int32.toInt64 v1) (0 : Int64) (1 : Int64) w) cb_X10_139 sx_X10_in rfl rfl rfl (Nat.le_of_ble_eq_true rfl) dX10_attacks_4 rfl (fun x1 w2 => ?_)
  refine sim_if_eq 18 dX10_attacks_7 rfl rfl (fun _ => ?_) (fun _ => ?_)
  · exact sim_sub [] rfl (sf_X10_attacks_18 hL w2)
  · refine sim_aload_n 0 dX10_attacks_10 rfl rfl ?_
    refine sim_iload_n 2 dX10_attacks_11 rfl rfl ?_
    refine sim_cVi (k := 50) (ci := 8) [.int v2] [] (c_X10_isField hL v2 w2) (hL 50 rfl) rfl (by decide) rfl cb_X10_292 im_X10_isField se_X10_isField rfl rfl rfl (Nat.le_of_ble_eq_true rfl) dX10_attacks_12 rfl (fun x3 w4 => ?_)
    refine sim_if_ne 21 dX10_attacks_15 rfl rfl (fun _ => ?_) (fun _ => ?_)
    · refine sim_aload_n 0 dX10_attacks_21 rfl rfl ?_
      refine sim_get (k := 50) (ci := 8) (j := 25) (v := .int (w4.1 50 25)) (hL 50 rfl) rfl (by decide) fl_X10_159 rfl dX10_attacks_22 rfl ?_
      refine sim_if_ne 33 dX10_attacks_25 rfl rfl (fun _ => ?_) (fun _ => ?_)
      · refine sim_aload_n 0 dX10_attacks_33 rfl rfl ?_
        refine sim_iconst (0 : Int32) dX10_attacks_34 rfl rfl ?_
        refine sim_iload_n 1 dX10_attacks_35 rfl rfl ?_
        refine sim_iload_n 2 dX10_attacks_36 rfl rfl ?_
        refine sim_cVi (k := 50) (ci := 8) [.int (0 : Int32), .int v1, .int v2] [] (c_X10_isAttacked hL (0 : Int32) v1 v2 w4) (hL 50 rfl) rfl (by decide) rfl cb_X10_207 im_X10_isAttacked se_X10_isAttacked rfl rfl rfl (Nat.le_of_ble_eq_true rfl) dX10_attacks_37 rfl (fun x5 w6 => ?_)
        refine sim_if_eq 47 dX10_attacks_40 rfl rfl (fun _ => ?_) (fun _ => ?_)
        · refine sim_iconst (0 : Int32) dX10_attacks_47 rfl rfl ?_
          exact sim_sub [] rfl (sf_X10_attacks_48 hL (0 : Int32) w6)
        · refine sim_iconst (1 : Int32) dX10_attacks_43 rfl rfl ?_
          refine sim_goto (q := 48) dX10_attacks_44 rfl ?_
          exact sim_sub [] rfl (sf_X10_attacks_48 hL (1 : Int32) w6)
      · refine sim_bipush (-3 : Int32) dX10_attacks_28 rfl rfl ?_
        refine sim_goto (q := 48) dX10_attacks_30 rfl ?_
        exact sim_sub [] rfl (sf_X10_attacks_48 hL (-3 : Int32) w4)
    · exact sim_sub [] rfl (sf_X10_attacks_18 hL w4)
def f_X10_check_39 (s0 : Int32) (w : Wd) : Option (Int32 × Wd) :=
  some (s0, w)
set_option maxRecDepth 20000 in
theorem sf_X10_check_39 {E : Ev} (hL : LM E) (s0 : Int32) (w : Wd) : Sim E m_X10_check rI 39 [] [.int s0] w (f_X10_check_39 s0 w) := by
  unfold f_X10_check_39
  exact sim_iret rfl dX10_check_39
def f_X10_check (v1 : Int32) (w : Wd) : Option (Int32 × Wd) :=
  bd (f_X10_in (Int32.toInt64 v1) (0 : Int64) (1 : Int64) w) fun x1 w2 =>
  if x1 = (0 : Int32) then
  some ((-2 : Int32), w2)
  else
  if (w2.1 50 25) = (0 : Int32) then
  f_X10_check_39 (-3 : Int32) w2
  else
  bd (f_X10_inCheck (0 : Int32) v1 w2) fun x3 w4 =>
  if x3 = (0 : Int32) then
  f_X10_check_39 (0 : Int32) w4
  else
  f_X10_check_39 (1 : Int32) w4
set_option maxRecDepth 20000 in
theorem c_X10_check {E : Ev} (hL : LM E) (v1 : Int32) (w : Wd) : Ct E m_X10_check yX10_check rI [.ref (Ea E 50), .int v1] w (f_X10_check v1 w) := by
  refine Ct.of (by decide) ⟨rfl, rfl⟩ (Nat.le_of_ble_eq_true rfl) ?_
  show Sim E m_X10_check rI 0 [(0, .ref (Ea E 50)), (1, .int v1)] [] w (f_X10_check v1 w)
  unfold f_X10_check
  refine sim_iload_n 1 dX10_check_0 rfl rfl ?_
  refine sim_i2l dX10_check_1 rfl ?_
  refine sim_lconst (0 : Int64) dX10_check_2 rfl rfl ?_
  refine sim_lconst (1 : Int64) dX10_check_3 rfl rfl ?_
  refine sim_cSi [.long (Int32.toInt64 v1), .long (0 : Int64), .long (1 : Int64)] [] (c_X10_in hL (Int32.toInt64 v1) (0 : Int64) (1 : Int64) w) cb_X10_139 sx_X10_in rfl rfl rfl (Nat.le_of_ble_eq_true rfl) dX10_check_4 rfl (fun x1 w2 => ?_)
  refine sim_if_ne 13 dX10_check_7 rfl rfl (fun _ => ?_) (fun _ => ?_)
  · refine sim_aload_n 0 dX10_check_13 rfl rfl ?_
    refine sim_get (k := 50) (ci := 8) (j := 25) (v := .int (w2.1 50 25)) (hL 50 rfl) rfl (by decide) fl_X10_159 rfl dX10_check_14 rfl ?_
    refine sim_if_ne 25 dX10_check_17 rfl rfl (fun _ => ?_) (fun _ => ?_)
    · refine sim_aload_n 0 dX10_check_25 rfl rfl ?_
      refine sim_iconst (0 : Int32) dX10_check_26 rfl rfl ?_
      refine sim_iload_n 1 dX10_check_27 rfl rfl ?_
      refine sim_cVi (k := 50) (ci := 8) [.int (0 : Int32), .int v1] [] (c_X10_inCheck hL (0 : Int32) v1 w2) (hL 50 rfl) rfl (by decide) rfl cb_X10_241 im_X10_inCheck se_X10_inCheck rfl rfl rfl (Nat.le_of_ble_eq_true rfl) dX10_check_28 rfl (fun x3 w4 => ?_)
      refine sim_if_eq 38 dX10_check_31 rfl rfl (fun _ => ?_) (fun _ => ?_)
      · refine sim_iconst (0 : Int32) dX10_check_38 rfl rfl ?_
        exact sim_sub [] rfl (sf_X10_check_39 hL (0 : Int32) w4)
      · refine sim_iconst (1 : Int32) dX10_check_34 rfl rfl ?_
        refine sim_goto (q := 39) dX10_check_35 rfl ?_
        exact sim_sub [] rfl (sf_X10_check_39 hL (1 : Int32) w4)
    · refine sim_bipush (-3 : Int32) dX10_check_20 rfl rfl ?_
      refine sim_goto (q := 39) dX10_check_22 rfl ?_
      exact sim_sub [] rfl (sf_X10_check_39 hL (-3 : Int32) w2)
  · refine sim_bipush (-2 : Int32) dX10_check_10 rfl rfl ?_
    exact sim_iret rfl dX10_check_12
def f_X10_moves (w : Wd) : Option (Int32 × Wd) :=
  if (w.1 50 25) = (0 : Int32) then
  some ((-3 : Int32), w)
  else
  bd (f_X10_findMoves (0 : Int32) w) fun _ w1 =>
  if inb (0 : Int32) 16 = true then
  some ((w1.1 63 (Int32.toNatClampNeg (0 : Int32))), w1)
  else none
set_option maxRecDepth 20000 in
theorem c_X10_moves {E : Ev} (hL : LM E) (w : Wd) : Ct E m_X10_moves yX10_moves rI [.ref (Ea E 50)] w (f_X10_moves w) := by
  refine Ct.of (by decide) ⟨rfl, rfl⟩ (Nat.le_of_ble_eq_true rfl) ?_
  show Sim E m_X10_moves rI 0 [(0, .ref (Ea E 50))] [] w (f_X10_moves w)
  unfold f_X10_moves
  refine sim_aload_n 0 dX10_moves_0 rfl rfl ?_
  refine sim_get (k := 50) (ci := 8) (j := 25) (v := .int (w.1 50 25)) (hL 50 rfl) rfl (by decide) fl_X10_159 rfl dX10_moves_1 rfl ?_
  refine sim_if_ne 10 dX10_moves_4 rfl rfl (fun _ => ?_) (fun _ => ?_)
  · refine sim_aload_n 0 dX10_moves_10 rfl rfl ?_
    refine sim_iconst (0 : Int32) dX10_moves_11 rfl rfl ?_
    refine sim_cVv (k := 50) (ci := 8) [.int (0 : Int32)] [] (c_X10_findMoves hL (0 : Int32) w) (hL 50 rfl) rfl (by decide) rfl cb_X10_255 im_X10_findMoves se_X10_findMoves rfl rfl rfl (Nat.le_of_ble_eq_true rfl) dX10_moves_12 rfl (fun _ w1 => ?_)
    refine sim_aload_n 0 dX10_moves_15 rfl rfl ?_
    refine sim_get (k := 50) (ci := 8) (j := 12) (v := .ref (Ea E 63)) (hL 50 rfl) rfl (by decide) fl_X10_40 rfl dX10_moves_16 rfl ?_
    refine sim_iconst (0 : Int32) dX10_moves_19 rfl rfl ?_
    refine sim_iaload (k := 63) (hL 63 rfl) rfl rfl dX10_moves_20 rfl ?_
    exact sim_iret rfl dX10_moves_21
  · refine sim_bipush (-3 : Int32) dX10_moves_7 rfl rfl ?_
    exact sim_iret rfl dX10_moves_9
def f_X10_move_45 (w : Wd) : Option (Int32 × Wd) :=
  some ((-2 : Int32), w)
set_option maxRecDepth 20000 in
theorem sf_X10_move_45 {E : Ev} (hL : LM E) (w : Wd) : Sim E m_X10_move rI 45 [] [] w (f_X10_move_45 w) := by
  unfold f_X10_move_45
  refine sim_bipush (-2 : Int32) dX10_move_45 rfl rfl ?_
  exact sim_iret rfl dX10_move_47
def f_X10_move_133 (s0 : Int32) (w : Wd) : Option (Int32 × Wd) :=
  some (s0, w)
set_option maxRecDepth 20000 in
theorem sf_X10_move_133 {E : Ev} (hL : LM E) (s0 : Int32) (w : Wd) : Sim E m_X10_move rI 133 [] [.int s0] w (f_X10_move_133 s0 w) := by
  unfold f_X10_move_133
  exact sim_iret rfl dX10_move_133
def f_X10_move_175 (s0 : Int32) (w : Wd) : Option (Int32 × Wd) :=
  some (s0, w)
set_option maxRecDepth 20000 in
theorem sf_X10_move_175 {E : Ev} (hL : LM E) (s0 : Int32) (w : Wd) : Sim E m_X10_move rI 175 [] [.int s0] w (f_X10_move_175 s0 w) := by
  unfold f_X10_move_175
  exact sim_iret rfl dX10_move_175
def f_X10_move_157 (w : Wd) : Option (Int32 × Wd) :=
  f_X10_move_175 (-1 : Int32) w
set_option maxRecDepth 20000 in
theorem sf_X10_move_157 {E : Ev} (hL : LM E) (w : Wd) : Sim E m_X10_move rI 157 [] [] w (f_X10_move_157 w) := by
  unfold f_X10_move_157
  refine sim_iconst (-1 : Int32) dX10_move_157 rfl rfl ?_
  refine sim_goto (q := 175) dX10_move_158 rfl ?_
  exact sim_sub [] rfl (sf_X10_move_175 hL (-1 : Int32) w)
def f_X10_move (v1 : Int32) (v2 : Int32) (w : Wd) : Option (Int32 × Wd) :=
  if (w.1 50 25) = (0 : Int32) then
  some ((-3 : Int32), w)
  else
  bd (f_X10_findMoves (0 : Int32) w) fun _ w1 =>
  if inb (0 : Int32) 16 = true then
  bd (f_X10_in (Int32.toInt64 v1) (0 : Int64) (Int32.toInt64 ((w1.1 63 (Int32.toNatClampNeg (0 : Int32))) - (1 : Int32))) w1) fun x2 w3 =>
  if x2 = (0 : Int32) then
  f_X10_move_45 w3
  else
  bd (f_X10_in (Int32.toInt64 v2) (0 : Int64) (4 : Int64) w3) fun x4 w5 =>
  if x4 = (0 : Int32) then
  f_X10_move_45 w5
  else
  if v2 = (0 : Int32) then
  if inb v1 32000 = true then
  some ((w5.1 64 (Int32.toNatClampNeg v1)), w5)
  else none
  else
  if v2 = (1 : Int32) then
  if inb v1 32000 = true then
  some ((w5.1 65 (Int32.toNatClampNeg v1)), w5)
  else none
  else
  if v2 = (2 : Int32) then
  if inb v1 32000 = true then
  some ((w5.1 66 (Int32.toNatClampNeg v1)), w5)
  else none
  else
  if v2 = (3 : Int32) then
  if inb v1 32000 = true then
  if (0 : Int32) ≤ (w5.1 64 (Int32.toNatClampNeg v1)) then
  if inb v1 32000 = true then
  if inb (w5.1 64 (Int32.toNatClampNeg v1)) 784 = true then
  bd (f_X10_kindOf (w5.1 60 (Int32.toNatClampNeg (w5.1 64 (Int32.toNatClampNeg v1)))) w5) fun x6 w7 =>
  f_X10_move_133 x6 w7
  else none
  else none
  else
  if inb v1 32000 = true then
  f_X10_move_133 (w5.1 67 (Int32.toNatClampNeg v1)) w5
  else none
  else none
  else
  if inb v1 32000 = true then
  if (w5.1 64 (Int32.toNatClampNeg v1)) < (0 : Int32) then
  f_X10_move_157 w5
  else
  if inb v1 32000 = true then
  if inb (w5.1 65 (Int32.toNatClampNeg v1)) 784 = true then
  if (w5.1 60 (Int32.toNatClampNeg (w5.1 65 (Int32.toNatClampNeg v1)))) = (0 : Int32) then
  f_X10_move_157 w5
  else
  if inb v1 32000 = true then
  if inb (w5.1 65 (Int32.toNatClampNeg v1)) 784 = true then
  bd (f_X10_kindOf (w5.1 60 (Int32.toNatClampNeg (w5.1 65 (Int32.toNatClampNeg v1)))) w5) fun x8 w9 =>
  f_X10_move_175 x8 w9
  else none
  else none
  else none
  else none
  else none
  else none
set_option maxRecDepth 20000 in
theorem c_X10_move {E : Ev} (hL : LM E) (v1 : Int32) (v2 : Int32) (w : Wd) : Ct E m_X10_move yX10_move rI [.ref (Ea E 50), .int v1, .int v2] w (f_X10_move v1 v2 w) := by
  refine Ct.of (by decide) ⟨rfl, rfl⟩ (Nat.le_of_ble_eq_true rfl) ?_
  show Sim E m_X10_move rI 0 [(0, .ref (Ea E 50)), (1, .int v1), (2, .int v2)] [] w (f_X10_move v1 v2 w)
  unfold f_X10_move
  refine sim_aload_n 0 dX10_move_0 rfl rfl ?_
  refine sim_get (k := 50) (ci := 8) (j := 25) (v := .int (w.1 50 25)) (hL 50 rfl) rfl (by decide) fl_X10_159 rfl dX10_move_1 rfl ?_
  refine sim_if_ne 10 dX10_move_4 rfl rfl (fun _ => ?_) (fun _ => ?_)
  · refine sim_aload_n 0 dX10_move_10 rfl rfl ?_
    refine sim_iconst (0 : Int32) dX10_move_11 rfl rfl ?_
    refine sim_cVv (k := 50) (ci := 8) [.int (0 : Int32)] [] (c_X10_findMoves hL (0 : Int32) w) (hL 50 rfl) rfl (by decide) rfl cb_X10_255 im_X10_findMoves se_X10_findMoves rfl rfl rfl (Nat.le_of_ble_eq_true rfl) dX10_move_12 rfl (fun _ w1 => ?_)
    refine sim_iload_n 1 dX10_move_15 rfl rfl ?_
    refine sim_i2l dX10_move_16 rfl ?_
    refine sim_lconst (0 : Int64) dX10_move_17 rfl rfl ?_
    refine sim_aload_n 0 dX10_move_18 rfl rfl ?_
    refine sim_get (k := 50) (ci := 8) (j := 12) (v := .ref (Ea E 63)) (hL 50 rfl) rfl (by decide) fl_X10_40 rfl dX10_move_19 rfl ?_
    refine sim_iconst (0 : Int32) dX10_move_22 rfl rfl ?_
    refine sim_iaload (k := 63) (hL 63 rfl) rfl rfl dX10_move_23 rfl ?_
    refine sim_iconst (1 : Int32) dX10_move_24 rfl rfl ?_
    refine sim_isub dX10_move_25 rfl ?_
    refine sim_i2l dX10_move_26 rfl ?_
    refine sim_cSi [.long (Int32.toInt64 v1), .long (0 : Int64), .long (Int32.toInt64 ((w1.1 63 (Int32.toNatClampNeg (0 : Int32))) - (1 : Int32)))] [] (c_X10_in hL (Int32.toInt64 v1) (0 : Int64) (Int32.toInt64 ((w1.1 63 (Int32.toNatClampNeg (0 : Int32))) - (1 : Int32))) w1) cb_X10_139 sx_X10_in rfl rfl rfl (Nat.le_of_ble_eq_true rfl) dX10_move_27 rfl (fun x2 w3 => ?_)
    refine sim_if_eq 45 dX10_move_30 rfl rfl (fun _ => ?_) (fun _ => ?_)
    · exact sim_sub [] rfl (sf_X10_move_45 hL w3)
    · refine sim_iload_n 2 dX10_move_33 rfl rfl ?_
      refine sim_i2l dX10_move_34 rfl ?_
      refine sim_lconst (0 : Int64) dX10_move_35 rfl rfl ?_
      refine sim_ldc2 (4 : Int64) dX10_move_36 k_X10_295 rfl ?_
      refine sim_cSi [.long (Int32.toInt64 v2), .long (0 : Int64), .long (4 : Int64)] [] (c_X10_in hL (Int32.toInt64 v2) (0 : Int64) (4 : Int64) w3) cb_X10_139 sx_X10_in rfl rfl rfl (Nat.le_of_ble_eq_true rfl) dX10_move_39 rfl (fun x4 w5 => ?_)
      refine sim_if_ne 48 dX10_move_42 rfl rfl (fun _ => ?_) (fun _ => ?_)
      · refine sim_iload_n 2 dX10_move_48 rfl rfl ?_
        refine sim_tab4 80 87 94 101 134 dX10_move_49 rfl rfl rfl rfl rfl ?_ ?_ ?_ ?_ ?_
        · refine sim_aload_n 0 dX10_move_80 rfl rfl ?_
          refine sim_get (k := 50) (ci := 8) (j := 13) (v := .ref (Ea E 64)) (hL 50 rfl) rfl (by decide) fl_X10_43 rfl dX10_move_81 rfl ?_
          refine sim_iload_n 1 dX10_move_84 rfl rfl ?_
          refine sim_iaload (k := 64) (hL 64 rfl) rfl rfl dX10_move_85 rfl ?_
          exact sim_iret rfl dX10_move_86
        · refine sim_aload_n 0 dX10_move_87 rfl rfl ?_
          refine sim_get (k := 50) (ci := 8) (j := 14) (v := .ref (Ea E 65)) (hL 50 rfl) rfl (by decide) fl_X10_46 rfl dX10_move_88 rfl ?_
          refine sim_iload_n 1 dX10_move_91 rfl rfl ?_
          refine sim_iaload (k := 65) (hL 65 rfl) rfl rfl dX10_move_92 rfl ?_
          exact sim_iret rfl dX10_move_93
        · refine sim_aload_n 0 dX10_move_94 rfl rfl ?_
          refine sim_get (k := 50) (ci := 8) (j := 15) (v := .ref (Ea E 66)) (hL 50 rfl) rfl (by decide) fl_X10_49 rfl dX10_move_95 rfl ?_
          refine sim_iload_n 1 dX10_move_98 rfl rfl ?_
          refine sim_iaload (k := 66) (hL 66 rfl) rfl rfl dX10_move_99 rfl ?_
          exact sim_iret rfl dX10_move_100
        · refine sim_aload_n 0 dX10_move_101 rfl rfl ?_
          refine sim_get (k := 50) (ci := 8) (j := 13) (v := .ref (Ea E 64)) (hL 50 rfl) rfl (by decide) fl_X10_43 rfl dX10_move_102 rfl ?_
          refine sim_iload_n 1 dX10_move_105 rfl rfl ?_
          refine sim_iaload (k := 64) (hL 64 rfl) rfl rfl dX10_move_106 rfl ?_
          refine sim_if_ge 119 dX10_move_107 rfl rfl (fun _ => ?_) (fun _ => ?_)
          · refine sim_aload_n 0 dX10_move_119 rfl rfl ?_
            refine sim_get (k := 50) (ci := 8) (j := 9) (v := .ref (Ea E 60)) (hL 50 rfl) rfl (by decide) fl_X10_31 rfl dX10_move_120 rfl ?_
            refine sim_aload_n 0 dX10_move_123 rfl rfl ?_
            refine sim_get (k := 50) (ci := 8) (j := 13) (v := .ref (Ea E 64)) (hL 50 rfl) rfl (by decide) fl_X10_43 rfl dX10_move_124 rfl ?_
            refine sim_iload_n 1 dX10_move_127 rfl rfl ?_
            refine sim_iaload (k := 64) (hL 64 rfl) rfl rfl dX10_move_128 rfl ?_
            refine sim_iaload (k := 60) (hL 60 rfl) rfl rfl dX10_move_129 rfl ?_
            refine sim_cSi [.int (w5.1 60 (Int32.toNatClampNeg (w5.1 64 (Int32.toNatClampNeg v1))))] [] (c_X10_kindOf hL (w5.1 60 (Int32.toNatClampNeg (w5.1 64 (Int32.toNatClampNeg v1)))) w5) cb_X10_187 sx_X10_kindOf rfl rfl rfl (Nat.le_of_ble_eq_true rfl) dX10_move_130 rfl (fun x6 w7 => ?_)
            exact sim_sub [] rfl (sf_X10_move_133 hL x6 w7)
          · refine sim_aload_n 0 dX10_move_110 rfl rfl ?_
            refine sim_get (k := 50) (ci := 8) (j := 16) (v := .ref (Ea E 67)) (hL 50 rfl) rfl (by decide) fl_X10_52 rfl dX10_move_111 rfl ?_
            refine sim_iload_n 1 dX10_move_114 rfl rfl ?_
            refine sim_iaload (k := 67) (hL 67 rfl) rfl rfl dX10_move_115 rfl ?_
            refine sim_goto (q := 133) dX10_move_116 rfl ?_
            exact sim_sub [] rfl (sf_X10_move_133 hL (w5.1 67 (Int32.toNatClampNeg v1)) w5)
        · refine sim_aload_n 0 dX10_move_134 rfl rfl ?_
          refine sim_get (k := 50) (ci := 8) (j := 13) (v := .ref (Ea E 64)) (hL 50 rfl) rfl (by decide) fl_X10_43 rfl dX10_move_135 rfl ?_
          refine sim_iload_n 1 dX10_move_138 rfl rfl ?_
          refine sim_iaload (k := 64) (hL 64 rfl) rfl rfl dX10_move_139 rfl ?_
          refine sim_if_lt 157 dX10_move_140 rfl rfl (fun _ => ?_) (fun _ => ?_)
          · exact sim_sub [] rfl (sf_X10_move_157 hL w5)
          · refine sim_aload_n 0 dX10_move_143 rfl rfl ?_
            refine sim_get (k := 50) (ci := 8) (j := 9) (v := .ref (Ea E 60)) (hL 50 rfl) rfl (by decide) fl_X10_31 rfl dX10_move_144 rfl ?_
            refine sim_aload_n 0 dX10_move_147 rfl rfl ?_
            refine sim_get (k := 50) (ci := 8) (j := 14) (v := .ref (Ea E 65)) (hL 50 rfl) rfl (by decide) fl_X10_46 rfl dX10_move_148 rfl ?_
            refine sim_iload_n 1 dX10_move_151 rfl rfl ?_
            refine sim_iaload (k := 65) (hL 65 rfl) rfl rfl dX10_move_152 rfl ?_
            refine sim_iaload (k := 60) (hL 60 rfl) rfl rfl dX10_move_153 rfl ?_
            refine sim_if_ne 161 dX10_move_154 rfl rfl (fun _ => ?_) (fun _ => ?_)
            · refine sim_aload_n 0 dX10_move_161 rfl rfl ?_
              refine sim_get (k := 50) (ci := 8) (j := 9) (v := .ref (Ea E 60)) (hL 50 rfl) rfl (by decide) fl_X10_31 rfl dX10_move_162 rfl ?_
              refine sim_aload_n 0 dX10_move_165 rfl rfl ?_
              refine sim_get (k := 50) (ci := 8) (j := 14) (v := .ref (Ea E 65)) (hL 50 rfl) rfl (by decide) fl_X10_46 rfl dX10_move_166 rfl ?_
              refine sim_iload_n 1 dX10_move_169 rfl rfl ?_
              refine sim_iaload (k := 65) (hL 65 rfl) rfl rfl dX10_move_170 rfl ?_
              refine sim_iaload (k := 60) (hL 60 rfl) rfl rfl dX10_move_171 rfl ?_
              refine sim_cSi [.int (w5.1 60 (Int32.toNatClampNeg (w5.1 65 (Int32.toNatClampNeg v1))))] [] (c_X10_kindOf hL (w5.1 60 (Int32.toNatClampNeg (w5.1 65 (Int32.toNatClampNeg v1)))) w5) cb_X10_187 sx_X10_kindOf rfl rfl rfl (Nat.le_of_ble_eq_true rfl) dX10_move_172 rfl (fun x8 w9 => ?_)
              exact sim_sub [] rfl (sf_X10_move_175 hL x8 w9)
            · exact sim_sub [] rfl (sf_X10_move_157 hL w5)
      · exact sim_sub [] rfl (sf_X10_move_45 hL w5)
  · refine sim_bipush (-3 : Int32) dX10_move_7 rfl rfl ?_
    exact sim_iret rfl dX10_move_9
def f_X10_why_16 (w : Wd) : Option (Int32 × Wd) :=
  some ((-2 : Int32), w)
set_option maxRecDepth 20000 in
theorem sf_X10_why_16 {E : Ev} (hL : LM E) (w : Wd) : Sim E m_X10_why rI 16 [] [] w (f_X10_why_16 w) := by
  unfold f_X10_why_16
  refine sim_bipush (-2 : Int32) dX10_why_16 rfl rfl ?_
  exact sim_iret rfl dX10_why_18
def f_X10_why_60 (w : Wd) : Option (Int32 × Wd) :=
  some ((1 : Int32), w)
set_option maxRecDepth 20000 in
theorem sf_X10_why_60 {E : Ev} (hL : LM E) (w : Wd) : Sim E m_X10_why rI 60 [] [] w (f_X10_why_60 w) := by
  unfold f_X10_why_60
  refine sim_iconst (1 : Int32) dX10_why_60 rfl rfl ?_
  exact sim_iret rfl dX10_why_61
def f_X10_why_176 (s0 : Int32) (w : Wd) : Option (Int32 × Wd) :=
  some (s0, w)
set_option maxRecDepth 20000 in
theorem sf_X10_why_176 {E : Ev} (hL : LM E) (s0 : Int32) (w : Wd) : Sim E m_X10_why rI 176 [] [.int s0] w (f_X10_why_176 s0 w) := by
  unfold f_X10_why_176
  exact sim_iret rfl dX10_why_176
def f_X10_why_156 (v4 : Int32) (s1 : Int32) (s2 : Int32) (s3 : Int32) (s4 : Int32) (w : Wd) : Option (Int32 × Wd) :=
  bd (f_X10_make s1 s2 s3 s4 (-1 : Int32) w) fun _ w10 =>
  bd (f_X10_inCheck (1 : Int32) v4 w10) fun x11 w12 =>
  if x11 = (0 : Int32) then
  f_X10_why_176 (0 : Int32) w12
  else
  f_X10_why_176 (6 : Int32) w12
set_option maxRecDepth 20000 in
theorem sf_X10_why_156 {E : Ev} (hL : LM E) (v4 : Int32) (s1 : Int32) (s2 : Int32) (s3 : Int32) (s4 : Int32) (w : Wd) : Sim E m_X10_why rI 156 [(0, .ref (Ea E 50)), (4, .int v4)] [.int s4, .int s3, .int s2, .int s1, .ref (Ea E 50)] w (f_X10_why_156 v4 s1 s2 s3 s4 w) := by
  unfold f_X10_why_156
  refine sim_iconst (-1 : Int32) dX10_why_156 rfl rfl ?_
  refine sim_cVv (k := 50) (ci := 8) [.int s1, .int s2, .int s3, .int s4, .int (-1 : Int32)] [] (c_X10_make hL s1 s2 s3 s4 (-1 : Int32) w) (hL 50 rfl) rfl (by decide) rfl cb_X10_238 im_X10_make se_X10_make rfl rfl rfl (Nat.le_of_ble_eq_true rfl) dX10_why_157 rfl (fun _ w10 => ?_)
  refine sim_aload_n 0 dX10_why_160 rfl rfl ?_
  refine sim_iconst (1 : Int32) dX10_why_161 rfl rfl ?_
  refine sim_iload 1 dX10_why_162 rfl rfl ?_
  refine sim_cVi (k := 50) (ci := 8) [.int (1 : Int32), .int v4] [] (c_X10_inCheck hL (1 : Int32) v4 w10) (hL 50 rfl) rfl (by decide) rfl cb_X10_241 im_X10_inCheck se_X10_inCheck rfl rfl rfl (Nat.le_of_ble_eq_true rfl) dX10_why_164 rfl (fun x11 w12 => ?_)
  refine sim_if_eq 175 dX10_why_167 rfl rfl (fun _ => ?_) (fun _ => ?_)
  · refine sim_iconst (0 : Int32) dX10_why_175 rfl rfl ?_
    exact sim_sub [] rfl (sf_X10_why_176 hL (0 : Int32) w12)
  · refine sim_bipush (6 : Int32) dX10_why_170 rfl rfl ?_
    refine sim_goto (q := 176) dX10_why_172 rfl ?_
    exact sim_sub [] rfl (sf_X10_why_176 hL (6 : Int32) w12)
def f_X10_why_143 (v1 : Int32) (v2 : Int32) (v3 : Int32) (v4 : Int32) (w : Wd) : Option (Int32 × Wd) :=
  if v3 = (0 : Int32) then
  f_X10_why_156 v4 (0 : Int32) v1 v2 (0 : Int32) w
  else
  f_X10_why_156 v4 (0 : Int32) v1 v2 (1 : Int32) w
set_option maxRecDepth 20000 in
theorem sf_X10_why_143 {E : Ev} (hL : LM E) (v1 : Int32) (v2 : Int32) (v3 : Int32) (v4 : Int32) (w : Wd) : Sim E m_X10_why rI 143 [(0, .ref (Ea E 50)), (1, .int v1), (2, .int v2), (3, .int v3), (4, .int v4)] [] w (f_X10_why_143 v1 v2 v3 v4 w) := by
  unfold f_X10_why_143
  refine sim_aload_n 0 dX10_why_143 rfl rfl ?_
  refine sim_iconst (0 : Int32) dX10_why_144 rfl rfl ?_
  refine sim_iload_n 1 dX10_why_145 rfl rfl ?_
  refine sim_iload_n 2 dX10_why_146 rfl rfl ?_
  refine sim_iload_n 3 dX10_why_147 rfl rfl ?_
  refine sim_if_eq 155 dX10_why_148 rfl rfl (fun _ => ?_) (fun _ => ?_)
  · refine sim_iconst (0 : Int32) dX10_why_155 rfl rfl ?_
    exact sim_sub [0, 4] rfl (sf_X10_why_156 hL v4 (0 : Int32) v1 v2 (0 : Int32) w)
  · refine sim_iconst (1 : Int32) dX10_why_151 rfl rfl ?_
    refine sim_goto (q := 156) dX10_why_152 rfl ?_
    exact sim_sub [0, 4] rfl (sf_X10_why_156 hL v4 (0 : Int32) v1 v2 (1 : Int32) w)
def f_X10_why_125 (v1 : Int32) (v2 : Int32) (v3 : Int32) (v4 : Int32) (v5 : Int32) (w : Wd) : Option (Int32 × Wd) :=
  if v3 = (0 : Int32) then
  bd (f_X10_mayStay v5 v4 v2 w) fun x13 w14 =>
  if x13 = (0 : Int32) then
  some ((5 : Int32), w14)
  else
  f_X10_why_143 v1 v2 v3 v4 w14
  else
  f_X10_why_143 v1 v2 v3 v4 w
set_option maxRecDepth 20000 in
theorem sf_X10_why_125 {E : Ev} (hL : LM E) (v1 : Int32) (v2 : Int32) (v3 : Int32) (v4 : Int32) (v5 : Int32) (w : Wd) : Sim E m_X10_why rI 125 [(0, .ref (Ea E 50)), (1, .int v1), (2, .int v2), (3, .int v3), (4, .int v4), (5, .int v5)] [] w (f_X10_why_125 v1 v2 v3 v4 v5 w) := by
  unfold f_X10_why_125
  refine sim_iload_n 3 dX10_why_125 rfl rfl ?_
  refine sim_if_ne 143 dX10_why_126 rfl rfl (fun _ => ?_) (fun _ => ?_)
  · exact sim_sub [0, 1, 2, 3, 4] rfl (sf_X10_why_143 hL v1 v2 v3 v4 w)
  · refine sim_aload_n 0 dX10_why_129 rfl rfl ?_
    refine sim_iload 5 dX10_why_130 rfl rfl ?_
    refine sim_iload 4 dX10_why_132 rfl rfl ?_
    refine sim_iload_n 2 dX10_why_134 rfl rfl ?_
    refine sim_cVi (k := 50) (ci := 8) [.int v5, .int v4, .int v2] [] (c_X10_mayStay hL v5 v4 v2 w) (hL 50 rfl) rfl (by decide) rfl cb_X10_221 im_X10_mayStay se_X10_mayStay rfl rfl rfl (Nat.le_of_ble_eq_true rfl) dX10_why_135 rfl (fun x13 w14 => ?_)
    refine sim_if_ne 143 dX10_why_138 rfl rfl (fun _ => ?_) (fun _ => ?_)
    · exact sim_sub [0, 1, 2, 3, 4] rfl (sf_X10_why_143 hL v1 v2 v3 v4 w14)
    · refine sim_iconst (5 : Int32) dX10_why_141 rfl rfl ?_
      exact sim_iret rfl dX10_why_142
def f_X10_why_106 (v1 : Int32) (v2 : Int32) (v3 : Int32) (v4 : Int32) (v5 : Int32) (w : Wd) : Option (Int32 × Wd) :=
  if v3 = (0 : Int32) then
  f_X10_why_125 v1 v2 v3 v4 v5 w
  else
  bd (f_X10_mayRaiseSo v5 v4 v1 v2 w) fun x15 w16 =>
  if x15 = (0 : Int32) then
  some ((4 : Int32), w16)
  else
  f_X10_why_125 v1 v2 v3 v4 v5 w16
set_option maxRecDepth 20000 in
theorem sf_X10_why_106 {E : Ev} (hL : LM E) (v1 : Int32) (v2 : Int32) (v3 : Int32) (v4 : Int32) (v5 : Int32) (w : Wd) : Sim E m_X10_why rI 106 [(0, .ref (Ea E 50)), (1, .int v1), (2, .int v2), (3, .int v3), (4, .int v4), (5, .int v5)] [] w (f_X10_why_106 v1 v2 v3 v4 v5 w) := by
  unfold f_X10_why_106
  refine sim_iload_n 3 dX10_why_106 rfl rfl ?_
  refine sim_if_eq 125 dX10_why_107 rfl rfl (fun _ => ?_) (fun _ => ?_)
  · exact sim_sub [0, 1, 2, 3, 4, 5] rfl (sf_X10_why_125 hL v1 v2 v3 v4 v5 w)
  · refine sim_aload_n 0 dX10_why_110 rfl rfl ?_
    refine sim_iload 5 dX10_why_111 rfl rfl ?_
    refine sim_iload 4 dX10_why_113 rfl rfl ?_
    refine sim_iload_n 1 dX10_why_115 rfl rfl ?_
    refine sim_iload_n 2 dX10_why_116 rfl rfl ?_
    refine sim_cVi (k := 50) (ci := 8) [.int v5, .int v4, .int v1, .int v2] [] (c_X10_mayRaiseSo hL v5 v4 v1 v2 w) (hL 50 rfl) rfl (by decide) rfl cb_X10_228 im_X10_mayRaiseSo se_X10_mayRaiseSo rfl rfl rfl (Nat.le_of_ble_eq_true rfl) dX10_why_117 rfl (fun x15 w16 => ?_)
    refine sim_if_ne 125 dX10_why_120 rfl rfl (fun _ => ?_) (fun _ => ?_)
    · exact sim_sub [0, 1, 2, 3, 4, 5] rfl (sf_X10_why_125 hL v1 v2 v3 v4 v5 w16)
    · refine sim_iconst (4 : Int32) dX10_why_123 rfl rfl ?_
      exact sim_iret rfl dX10_why_124
def f_X10_why (v1 : Int32) (v2 : Int32) (v3 : Int32) (w : Wd) : Option (Int32 × Wd) :=
  bd (f_X10_isField v1 w) fun x1 w2 =>
  if x1 = (0 : Int32) then
  f_X10_why_16 w2
  else
  bd (f_X10_isField v2 w2) fun x3 w4 =>
  if x3 = (0 : Int32) then
  f_X10_why_16 w4
  else
  if (w4.1 50 25) = (0 : Int32) then
  some ((-3 : Int32), w4)
  else
  if inb (0 : Int32) 16 = true then
  lt (w4.1 62 (Int32.toNatClampNeg (0 : Int32))) fun x5 =>
  if inb v1 784 = true then
  lt (w4.1 60 (Int32.toNatClampNeg v1)) fun x6 =>
  if x6 = (0 : Int32) then
  f_X10_why_60 w4
  else
  bd (f_X10_sideOf x6 w4) fun x7 w8 =>
  if x7 = x5 then
  bd (f_X10_reaches (0 : Int32) v1 x6 w8) fun _ w9 =>
  if inb v2 49 = true then
  if (w9.1 75 (Int32.toNatClampNeg v2)) = (0 : Int32) then
  some ((2 : Int32), w9)
  else
  if inb v2 784 = true then
  if (w9.1 60 (Int32.toNatClampNeg v2)) = (0 : Int32) then
  f_X10_why_106 v1 v2 v3 x5 x6 w9
  else
  if inb v2 784 = true then
  bd (f_X10_sideOf (w9.1 60 (Int32.toNatClampNeg v2)) w9) fun x17 w18 =>
  if x17 = x5 then
  some ((3 : Int32), w18)
  else
  f_X10_why_106 v1 v2 v3 x5 x6 w18
  else none
  else none
  else none
  else
  f_X10_why_60 w8
  else none
  else none
set_option maxRecDepth 20000 in
theorem c_X10_why {E : Ev} (hL : LM E) (v1 : Int32) (v2 : Int32) (v3 : Int32) (w : Wd) : Ct E m_X10_why yX10_why rI [.ref (Ea E 50), .int v1, .int v2, .int v3] w (f_X10_why v1 v2 v3 w) := by
  refine Ct.of (by decide) ⟨rfl, rfl⟩ (Nat.le_of_ble_eq_true rfl) ?_
  show Sim E m_X10_why rI 0 [(0, .ref (Ea E 50)), (1, .int v1), (2, .int v2), (3, .int v3)] [] w (f_X10_why v1 v2 v3 w)
  unfold f_X10_why
  refine sim_aload_n 0 dX10_why_0 rfl rfl ?_
  refine sim_iload_n 1 dX10_why_1 rfl rfl ?_
  refine sim_cVi (k := 50) (ci := 8) [.int v1] [] (c_X10_isField hL v1 w) (hL 50 rfl) rfl (by decide) rfl cb_X10_292 im_X10_isField se_X10_isField rfl rfl rfl (Nat.le_of_ble_eq_true rfl) dX10_why_2 rfl (fun x1 w2 => ?_)
  refine sim_if_eq 16 dX10_why_5 rfl rfl (fun _ => ?_) (fun _ => ?_)
  · exact sim_sub [] rfl (sf_X10_why_16 hL w2)
  · refine sim_aload_n 0 dX10_why_8 rfl rfl ?_
    refine sim_iload_n 2 dX10_why_9 rfl rfl ?_
    refine sim_cVi (k := 50) (ci := 8) [.int v2] [] (c_X10_isField hL v2 w2) (hL 50 rfl) rfl (by decide) rfl cb_X10_292 im_X10_isField se_X10_isField rfl rfl rfl (Nat.le_of_ble_eq_true rfl) dX10_why_10 rfl (fun x3 w4 => ?_)
    refine sim_if_ne 19 dX10_why_13 rfl rfl (fun _ => ?_) (fun _ => ?_)
    · refine sim_aload_n 0 dX10_why_19 rfl rfl ?_
      refine sim_get (k := 50) (ci := 8) (j := 25) (v := .int (w4.1 50 25)) (hL 50 rfl) rfl (by decide) fl_X10_159 rfl dX10_why_20 rfl ?_
      refine sim_if_ne 29 dX10_why_23 rfl rfl (fun _ => ?_) (fun _ => ?_)
      · refine sim_aload_n 0 dX10_why_29 rfl rfl ?_
        refine sim_get (k := 50) (ci := 8) (j := 11) (v := .ref (Ea E 62)) (hL 50 rfl) rfl (by decide) fl_X10_37 rfl dX10_why_30 rfl ?_
        refine sim_iconst (0 : Int32) dX10_why_33 rfl rfl ?_
        refine sim_iaload (k := 62) (hL 62 rfl) rfl rfl dX10_why_34 rfl ?_
        refine sim_lt (fun x5 => ?_)
        refine sim_istore [(4, .int x5), (0, .ref (Ea E 50)), (1, .int v1), (2, .int v2), (3, .int v3)] dX10_why_35 (Nat.le_of_ble_eq_true rfl) rfl rfl ?_
        refine sim_aload_n 1 dX10_why_37 rfl rfl ?_
        refine sim_get (k := 50) (ci := 8) (j := 9) (v := .ref (Ea E 60)) (hL 50 rfl) rfl (by decide) fl_X10_31 rfl dX10_why_38 rfl ?_
        refine sim_iload_n 2 dX10_why_41 rfl rfl ?_
        refine sim_iaload (k := 60) (hL 60 rfl) rfl rfl dX10_why_42 rfl ?_
        refine sim_lt (fun x6 => ?_)
        refine sim_istore [(5, .int x6), (4, .int x5), (0, .ref (Ea E 50)), (1, .int v1), (2, .int v2), (3, .int v3)] dX10_why_43 (Nat.le_of_ble_eq_true rfl) rfl rfl ?_
        refine sim_iload 0 dX10_why_45 rfl rfl ?_
        refine sim_if_eq 60 dX10_why_47 rfl rfl (fun _ => ?_) (fun _ => ?_)
        · exact sim_sub [] rfl (sf_X10_why_60 hL w4)
        · refine sim_iload 0 dX10_why_50 rfl rfl ?_
          refine sim_cSi [.int x6] [] (c_X10_sideOf hL x6 w4) cb_X10_193 sx_X10_sideOf rfl rfl rfl (Nat.le_of_ble_eq_true rfl) dX10_why_52 rfl (fun x7 w8 => ?_)
          refine sim_iload 1 dX10_why_55 rfl rfl ?_
          refine sim_icmp_eq 62 dX10_why_57 rfl rfl (fun _ => ?_) (fun _ => ?_)
          · refine sim_aload_n 2 dX10_why_62 rfl rfl ?_
            refine sim_iconst (0 : Int32) dX10_why_63 rfl rfl ?_
            refine sim_iload_n 3 dX10_why_64 rfl rfl ?_
            refine sim_iload 0 dX10_why_65 rfl rfl ?_
            refine sim_cVv (k := 50) (ci := 8) [.int (0 : Int32), .int v1, .int x6] [] (c_X10_reaches hL (0 : Int32) v1 x6 w8) (hL 50 rfl) rfl (by decide) rfl cb_X10_203 im_X10_reaches se_X10_reaches rfl rfl rfl (Nat.le_of_ble_eq_true rfl) dX10_why_67 rfl (fun _ w9 => ?_)
            refine sim_aload_n 2 dX10_why_70 rfl rfl ?_
            refine sim_get (k := 50) (ci := 8) (j := 24) (v := .ref (Ea E 75)) (hL 50 rfl) rfl (by decide) fl_X10_73 rfl dX10_why_71 rfl ?_
            refine sim_iload_n 4 dX10_why_74 rfl rfl ?_
            refine sim_baload (k := 75) (hL 75 rfl) rfl rfl dX10_why_75 rfl ?_
            refine sim_if_ne 81 dX10_why_76 rfl rfl (fun _ => ?_) (fun _ => ?_)
            · refine sim_aload_n 2 dX10_why_81 rfl rfl ?_
              refine sim_get (k := 50) (ci := 8) (j := 9) (v := .ref (Ea E 60)) (hL 50 rfl) rfl (by decide) fl_X10_31 rfl dX10_why_82 rfl ?_
              refine sim_iload_n 4 dX10_why_85 rfl rfl ?_
              refine sim_iaload (k := 60) (hL 60 rfl) rfl rfl dX10_why_86 rfl ?_
              refine sim_if_eq 106 dX10_why_87 rfl rfl (fun _ => ?_) (fun _ => ?_)
              · exact sim_sub [2, 3, 4, 5, 1, 0] rfl (sf_X10_why_106 hL v1 v2 v3 x5 x6 w9)
              · refine sim_aload_n 2 dX10_why_90 rfl rfl ?_
                refine sim_get (k := 50) (ci := 8) (j := 9) (v := .ref (Ea E 60)) (hL 50 rfl) rfl (by decide) fl_X10_31 rfl dX10_why_91 rfl ?_
                refine sim_iload_n 4 dX10_why_94 rfl rfl ?_
                refine sim_iaload (k := 60) (hL 60 rfl) rfl rfl dX10_why_95 rfl ?_
                refine sim_cSi [.int (w9.1 60 (Int32.toNatClampNeg v2))] [] (c_X10_sideOf hL (w9.1 60 (Int32.toNatClampNeg v2)) w9) cb_X10_193 sx_X10_sideOf rfl rfl rfl (Nat.le_of_ble_eq_true rfl) dX10_why_96 rfl (fun x17 w18 => ?_)
                refine sim_iload 1 dX10_why_99 rfl rfl ?_
                refine sim_icmp_ne 106 dX10_why_101 rfl rfl (fun _ => ?_) (fun _ => ?_)
                · exact sim_sub [2, 3, 4, 5, 1, 0] rfl (sf_X10_why_106 hL v1 v2 v3 x5 x6 w18)
                · refine sim_iconst (3 : Int32) dX10_why_104 rfl rfl ?_
                  exact sim_iret rfl dX10_why_105
            · refine sim_iconst (2 : Int32) dX10_why_79 rfl rfl ?_
              exact sim_iret rfl dX10_why_80
          · exact sim_sub [] rfl (sf_X10_why_60 hL w8)
      · refine sim_bipush (-3 : Int32) dX10_why_26 rfl rfl ?_
        exact sim_iret rfl dX10_why_28
    · exact sim_sub [] rfl (sf_X10_why_16 hL w4)
def f_X10_whySet_20 (w : Wd) : Option (Int32 × Wd) :=
  some ((-2 : Int32), w)
set_option maxRecDepth 20000 in
theorem sf_X10_whySet_20 {E : Ev} (hL : LM E) (w : Wd) : Sim E m_X10_whySet rI 20 [] [] w (f_X10_whySet_20 w) := by
  unfold f_X10_whySet_20
  refine sim_bipush (-2 : Int32) dX10_whySet_20 rfl rfl ?_
  exact sim_iret rfl dX10_whySet_22
def f_X10_whySet_148 (s0 : Int32) (w : Wd) : Option (Int32 × Wd) :=
  some (s0, w)
set_option maxRecDepth 20000 in
theorem sf_X10_whySet_148 {E : Ev} (hL : LM E) (s0 : Int32) (w : Wd) : Sim E m_X10_whySet rI 148 [] [.int s0] w (f_X10_whySet_148 s0 w) := by
  unfold f_X10_whySet_148
  exact sim_iret rfl dX10_whySet_148
def f_X10_whySet_147 (w : Wd) : Option (Int32 × Wd) :=
  f_X10_whySet_148 (0 : Int32) w
set_option maxRecDepth 20000 in
theorem sf_X10_whySet_147 {E : Ev} (hL : LM E) (w : Wd) : Sim E m_X10_whySet rI 147 [] [] w (f_X10_whySet_147 w) := by
  unfold f_X10_whySet_147
  refine sim_iconst (0 : Int32) dX10_whySet_147 rfl rfl ?_
  exact sim_sub [] rfl (sf_X10_whySet_148 hL (0 : Int32) w)
def f_X10_whySet_103 (v1 : Int32) (v2 : Int32) (v3 : Int32) (w : Wd) : Option (Int32 × Wd) :=
  bd (f_X10_make (0 : Int32) (-1 : Int32) v2 (0 : Int32) v1 w) fun _ w8 =>
  bd (f_X10_inCheck (1 : Int32) v3 w8) fun x9 w10 =>
  if x9 = (0 : Int32) then
  if inb v1 8 = true then
  if ((w10.1 55 (Int32.toNatClampNeg v1)) &&& (2 : Int32)) = (0 : Int32) then
  f_X10_whySet_147 w10
  else
  bd (f_X10_isMate (1 : Int32) w10) fun x11 w12 =>
  if x11 = (0 : Int32) then
  f_X10_whySet_147 w12
  else
  f_X10_whySet_148 (6 : Int32) w12
  else none
  else
  some ((5 : Int32), w10)
set_option maxRecDepth 20000 in
theorem sf_X10_whySet_103 {E : Ev} (hL : LM E) (v1 : Int32) (v2 : Int32) (v3 : Int32) (w : Wd) : Sim E m_X10_whySet rI 103 [(0, .ref (Ea E 50)), (1, .int v1), (2, .int v2), (3, .int v3)] [] w (f_X10_whySet_103 v1 v2 v3 w) := by
  unfold f_X10_whySet_103
  refine sim_aload_n 0 dX10_whySet_103 rfl rfl ?_
  refine sim_iconst (0 : Int32) dX10_whySet_104 rfl rfl ?_
  refine sim_iconst (-1 : Int32) dX10_whySet_105 rfl rfl ?_
  refine sim_iload_n 2 dX10_whySet_106 rfl rfl ?_
  refine sim_iconst (0 : Int32) dX10_whySet_107 rfl rfl ?_
  refine sim_iload_n 1 dX10_whySet_108 rfl rfl ?_
  refine sim_cVv (k := 50) (ci := 8) [.int (0 : Int32), .int (-1 : Int32), .int v2, .int (0 : Int32), .int v1] [] (c_X10_make hL (0 : Int32) (-1 : Int32) v2 (0 : Int32) v1 w) (hL 50 rfl) rfl (by decide) rfl cb_X10_238 im_X10_make se_X10_make rfl rfl rfl (Nat.le_of_ble_eq_true rfl) dX10_whySet_109 rfl (fun _ w8 => ?_)
  refine sim_aload_n 0 dX10_whySet_112 rfl rfl ?_
  refine sim_iconst (1 : Int32) dX10_whySet_113 rfl rfl ?_
  refine sim_iload_n 3 dX10_whySet_114 rfl rfl ?_
  refine sim_cVi (k := 50) (ci := 8) [.int (1 : Int32), .int v3] [] (c_X10_inCheck hL (1 : Int32) v3 w8) (hL 50 rfl) rfl (by decide) rfl cb_X10_241 im_X10_inCheck se_X10_inCheck rfl rfl rfl (Nat.le_of_ble_eq_true rfl) dX10_whySet_115 rfl (fun x9 w10 => ?_)
  refine sim_if_eq 123 dX10_whySet_118 rfl rfl (fun _ => ?_) (fun _ => ?_)
  · refine sim_aload_n 0 dX10_whySet_123 rfl rfl ?_
    refine sim_get (k := 50) (ci := 8) (j := 4) (v := .ref (Ea E 55)) (hL 50 rfl) rfl (by decide) fl_X10_16 rfl dX10_whySet_124 rfl ?_
    refine sim_iload_n 1 dX10_whySet_127 rfl rfl ?_
    refine sim_iaload (k := 55) (hL 55 rfl) rfl rfl dX10_whySet_128 rfl ?_
    refine sim_iconst (2 : Int32) dX10_whySet_129 rfl rfl ?_
    refine sim_iand dX10_whySet_130 rfl ?_
    refine sim_if_eq 147 dX10_whySet_131 rfl rfl (fun _ => ?_) (fun _ => ?_)
    · exact sim_sub [] rfl (sf_X10_whySet_147 hL w10)
    · refine sim_aload_n 0 dX10_whySet_134 rfl rfl ?_
      refine sim_iconst (1 : Int32) dX10_whySet_135 rfl rfl ?_
      refine sim_cVi (k := 50) (ci := 8) [.int (1 : Int32)] [] (c_X10_isMate hL (1 : Int32) w10) (hL 50 rfl) rfl (by decide) rfl cb_X10_247 im_X10_isMate se_X10_isMate rfl rfl rfl (Nat.le_of_ble_eq_true rfl) dX10_whySet_136 rfl (fun x11 w12 => ?_)
      refine sim_if_eq 147 dX10_whySet_139 rfl rfl (fun _ => ?_) (fun _ => ?_)
      · exact sim_sub [] rfl (sf_X10_whySet_147 hL w12)
      · refine sim_bipush (6 : Int32) dX10_whySet_142 rfl rfl ?_
        refine sim_goto (q := 148) dX10_whySet_144 rfl ?_
        exact sim_sub [] rfl (sf_X10_whySet_148 hL (6 : Int32) w12)
  · refine sim_iconst (5 : Int32) dX10_whySet_121 rfl rfl ?_
    exact sim_iret rfl dX10_whySet_122
def f_X10_whySet (v1 : Int32) (v2 : Int32) (w : Wd) : Option (Int32 × Wd) :=
  bd (f_X10_in (Int32.toInt64 v1) (1 : Int64) (7 : Int64) w) fun x1 w2 =>
  if x1 = (0 : Int32) then
  f_X10_whySet_20 w2
  else
  bd (f_X10_isField v2 w2) fun x3 w4 =>
  if x3 = (0 : Int32) then
  f_X10_whySet_20 w4
  else
  if (w4.1 50 25) = (0 : Int32) then
  some ((-3 : Int32), w4)
  else
  if inb (0 : Int32) 16 = true then
  lt (w4.1 62 (Int32.toNatClampNeg (0 : Int32))) fun x5 =>
  if inb (((8 : Int32) * x5) + v1) 256 = true then
  if (w4.1 61 (Int32.toNatClampNeg (((8 : Int32) * x5) + v1))) = (0 : Int32) then
  some ((1 : Int32), w4)
  else
  if inb v2 784 = true then
  if (w4.1 60 (Int32.toNatClampNeg v2)) = (0 : Int32) then
  bd (f_X10_couldGoOn v1 x5 v2 w4) fun x6 w7 =>
  if x6 = (0 : Int32) then
  some ((3 : Int32), w7)
  else
  if inb v1 8 = true then
  if ((w7.1 55 (Int32.toNatClampNeg v1)) &&& (1 : Int32)) = (0 : Int32) then
  f_X10_whySet_103 v1 v2 x5 w7
  else
  bd (f_X10_inColumn (0 : Int32) x5 v1 v2 w7) fun x13 w14 =>
  if x13 = (0 : Int32) then
  f_X10_whySet_103 v1 v2 x5 w14
  else
  some ((4 : Int32), w14)
  else none
  else
  some ((2 : Int32), w4)
  else none
  else none
  else none
set_option maxRecDepth 20000 in
theorem c_X10_whySet {E : Ev} (hL : LM E) (v1 : Int32) (v2 : Int32) (w : Wd) : Ct E m_X10_whySet yX10_whySet rI [.ref (Ea E 50), .int v1, .int v2] w (f_X10_whySet v1 v2 w) := by
  refine Ct.of (by decide) ⟨rfl, rfl⟩ (Nat.le_of_ble_eq_true rfl) ?_
  show Sim E m_X10_whySet rI 0 [(0, .ref (Ea E 50)), (1, .int v1), (2, .int v2)] [] w (f_X10_whySet v1 v2 w)
  unfold f_X10_whySet
  refine sim_iload_n 1 dX10_whySet_0 rfl rfl ?_
  refine sim_i2l dX10_whySet_1 rfl ?_
  refine sim_lconst (1 : Int64) dX10_whySet_2 rfl rfl ?_
  refine sim_ldc2 (7 : Int64) dX10_whySet_3 k_X10_137 rfl ?_
  refine sim_cSi [.long (Int32.toInt64 v1), .long (1 : Int64), .long (7 : Int64)] [] (c_X10_in hL (Int32.toInt64 v1) (1 : Int64) (7 : Int64) w) cb_X10_139 sx_X10_in rfl rfl rfl (Nat.le_of_ble_eq_true rfl) dX10_whySet_6 rfl (fun x1 w2 => ?_)
  refine sim_if_eq 20 dX10_whySet_9 rfl rfl (fun _ => ?_) (fun _ => ?_)
  · exact sim_sub [] rfl (sf_X10_whySet_20 hL w2)
  · refine sim_aload_n 0 dX10_whySet_12 rfl rfl ?_
    refine sim_iload_n 2 dX10_whySet_13 rfl rfl ?_
    refine sim_cVi (k := 50) (ci := 8) [.int v2] [] (c_X10_isField hL v2 w2) (hL 50 rfl) rfl (by decide) rfl cb_X10_292 im_X10_isField se_X10_isField rfl rfl rfl (Nat.le_of_ble_eq_true rfl) dX10_whySet_14 rfl (fun x3 w4 => ?_)
    refine sim_if_ne 23 dX10_whySet_17 rfl rfl (fun _ => ?_) (fun _ => ?_)
    · refine sim_aload_n 0 dX10_whySet_23 rfl rfl ?_
      refine sim_get (k := 50) (ci := 8) (j := 25) (v := .int (w4.1 50 25)) (hL 50 rfl) rfl (by decide) fl_X10_159 rfl dX10_whySet_24 rfl ?_
      refine sim_if_ne 33 dX10_whySet_27 rfl rfl (fun _ => ?_) (fun _ => ?_)
      · refine sim_aload_n 0 dX10_whySet_33 rfl rfl ?_
        refine sim_get (k := 50) (ci := 8) (j := 11) (v := .ref (Ea E 62)) (hL 50 rfl) rfl (by decide) fl_X10_37 rfl dX10_whySet_34 rfl ?_
        refine sim_iconst (0 : Int32) dX10_whySet_37 rfl rfl ?_
        refine sim_iaload (k := 62) (hL 62 rfl) rfl rfl dX10_whySet_38 rfl ?_
        refine sim_lt (fun x5 => ?_)
        refine sim_istore_n [(3, .int x5), (0, .ref (Ea E 50)), (1, .int v1), (2, .int v2)] dX10_whySet_39 (Nat.le_of_ble_eq_true rfl) rfl rfl ?_
        refine sim_aload_n 1 dX10_whySet_40 rfl rfl ?_
        refine sim_get (k := 50) (ci := 8) (j := 10) (v := .ref (Ea E 61)) (hL 50 rfl) rfl (by decide) fl_X10_34 rfl dX10_whySet_41 rfl ?_
        refine sim_bipush (8 : Int32) dX10_whySet_44 rfl rfl ?_
        refine sim_iload_n 0 dX10_whySet_46 rfl rfl ?_
        refine sim_imul dX10_whySet_47 rfl ?_
        refine sim_iload_n 2 dX10_whySet_48 rfl rfl ?_
        refine sim_iadd dX10_whySet_49 rfl ?_
        refine sim_iaload (k := 61) (hL 61 rfl) rfl rfl dX10_whySet_50 rfl ?_
        refine sim_if_ne 56 dX10_whySet_51 rfl rfl (fun _ => ?_) (fun _ => ?_)
        · refine sim_aload_n 1 dX10_whySet_56 rfl rfl ?_
          refine sim_get (k := 50) (ci := 8) (j := 9) (v := .ref (Ea E 60)) (hL 50 rfl) rfl (by decide) fl_X10_31 rfl dX10_whySet_57 rfl ?_
          refine sim_iload_n 3 dX10_whySet_60 rfl rfl ?_
          refine sim_iaload (k := 60) (hL 60 rfl) rfl rfl dX10_whySet_61 rfl ?_
          refine sim_if_eq 67 dX10_whySet_62 rfl rfl (fun _ => ?_) (fun _ => ?_)
          · refine sim_aload_n 1 dX10_whySet_67 rfl rfl ?_
            refine sim_iload_n 2 dX10_whySet_68 rfl rfl ?_
            refine sim_iload_n 0 dX10_whySet_69 rfl rfl ?_
            refine sim_iload_n 3 dX10_whySet_70 rfl rfl ?_
            refine sim_cVi (k := 50) (ci := 8) [.int v1, .int x5, .int v2] [] (c_X10_couldGoOn hL v1 x5 v2 w4) (hL 50 rfl) rfl (by decide) rfl cb_X10_218 im_X10_couldGoOn se_X10_couldGoOn rfl rfl rfl (Nat.le_of_ble_eq_true rfl) dX10_whySet_71 rfl (fun x6 w7 => ?_)
            refine sim_if_ne 79 dX10_whySet_74 rfl rfl (fun _ => ?_) (fun _ => ?_)
            · refine sim_aload_n 1 dX10_whySet_79 rfl rfl ?_
              refine sim_get (k := 50) (ci := 8) (j := 4) (v := .ref (Ea E 55)) (hL 50 rfl) rfl (by decide) fl_X10_16 rfl dX10_whySet_80 rfl ?_
              refine sim_iload_n 2 dX10_whySet_83 rfl rfl ?_
              refine sim_iaload (k := 55) (hL 55 rfl) rfl rfl dX10_whySet_84 rfl ?_
              refine sim_iconst (1 : Int32) dX10_whySet_85 rfl rfl ?_
              refine sim_iand dX10_whySet_86 rfl ?_
              refine sim_if_eq 103 dX10_whySet_87 rfl rfl (fun _ => ?_) (fun _ => ?_)
              · exact sim_sub [1, 2, 3, 0] rfl (sf_X10_whySet_103 hL v1 v2 x5 w7)
              · refine sim_aload_n 1 dX10_whySet_90 rfl rfl ?_
                refine sim_iconst (0 : Int32) dX10_whySet_91 rfl rfl ?_
                refine sim_iload_n 0 dX10_whySet_92 rfl rfl ?_
                refine sim_iload_n 2 dX10_whySet_93 rfl rfl ?_
                refine sim_iload_n 3 dX10_whySet_94 rfl rfl ?_
                refine sim_cVi (k := 50) (ci := 8) [.int (0 : Int32), .int x5, .int v1, .int v2] [] (c_X10_inColumn hL (0 : Int32) x5 v1 v2 w7) (hL 50 rfl) rfl (by decide) rfl cb_X10_232 im_X10_inColumn se_X10_inColumn rfl rfl rfl (Nat.le_of_ble_eq_true rfl) dX10_whySet_95 rfl (fun x13 w14 => ?_)
                refine sim_if_eq 103 dX10_whySet_98 rfl rfl (fun _ => ?_) (fun _ => ?_)
                · exact sim_sub [1, 2, 3, 0] rfl (sf_X10_whySet_103 hL v1 v2 x5 w14)
                · refine sim_iconst (4 : Int32) dX10_whySet_101 rfl rfl ?_
                  exact sim_iret rfl dX10_whySet_102
            · refine sim_iconst (3 : Int32) dX10_whySet_77 rfl rfl ?_
              exact sim_iret rfl dX10_whySet_78
          · refine sim_iconst (2 : Int32) dX10_whySet_65 rfl rfl ?_
            exact sim_iret rfl dX10_whySet_66
        · refine sim_iconst (1 : Int32) dX10_whySet_54 rfl rfl ?_
          exact sim_iret rfl dX10_whySet_55
      · refine sim_bipush (-3 : Int32) dX10_whySet_30 rfl rfl ?_
        exact sim_iret rfl dX10_whySet_32
    · exact sim_sub [] rfl (sf_X10_whySet_20 hL w4)
