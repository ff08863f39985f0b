def b_X10_hasAny_11 (R : Int32 → Int32 → Wd → Option (Int32 × Wd)) (K72 : Wd → Option (Int32 × Wd)) (K80 : Wd → Option (Int32 × Wd)) (v1 : Int32) (v2 : Int32) (w : Wd) : Option (Int32 × Wd) :=
  if inb v1 16 = true then
  if (((2000 : Int32) * v1) + (w.1 68 (Int32.toNatClampNeg v1))) ≤ v2 then
  K80 w
  else
  if inb v2 32000 = true then
  if inb v2 32000 = true then
  if inb v2 32000 = true then
  if inb v2 32000 = true then
  bd (f_X10_make v1 (w.1 69 (Int32.toNatClampNeg v2)) (w.1 70 (Int32.toNatClampNeg v2)) (w.1 71 (Int32.toNatClampNeg v2)) (w.1 72 (Int32.toNatClampNeg v2)) w) fun _ w3 =>
  if inb v1 16 = true then
  bd (f_X10_inCheck (v1 + (1 : Int32)) (w3.1 62 (Int32.toNatClampNeg v1)) w3) fun x4 w5 =>
  if x4 = (0 : Int32) then
  K72 w5
  else
  R v1 (v2 + (1 : Int32)) w5
  else none
  else none
  else none
  else none
  else none
  else none
set_option maxRecDepth 20000 in
theorem sb_X10_hasAny_11 {E : Ev} (hL : LM E) {R : Int32 → Int32 → Wd → Option (Int32 × Wd)} (hR : ∀ (v1 : Int32) (v2 : Int32) (w : Wd), Sim E m_X10_hasAny rI 11 [(0, .ref (Ea E 50)), (1, .int v1), (2, .int v2)] [] w (R v1 v2 w)) {K72 : Wd → Option (Int32 × Wd)} (hK72 : ∀ (w : Wd), Sim E m_X10_hasAny rI 72 [] [] w (K72  w)) {K80 : Wd → Option (Int32 × Wd)} (hK80 : ∀ (w : Wd), Sim E m_X10_hasAny rI 80 [] [] w (K80  w)) (v1 : Int32) (v2 : Int32) (w : Wd) : Sim E m_X10_hasAny rI 11 [(0, .ref (Ea E 50)), (1, .int v1), (2, .int v2)] [] w (b_X10_hasAny_11 R K72 K80 v1 v2 w) := by
  unfold b_X10_hasAny_11
  refine sim_iload_n 2 dX10_hasAny_11 rfl rfl ?_
  refine sim_sipush (2000 : Int32) dX10_hasAny_12 rfl rfl ?_
  refine sim_iload_n 1 dX10_hasAny_15 rfl rfl ?_
  refine sim_imul dX10_hasAny_16 rfl ?_
  refine sim_aload_n 0 dX10_hasAny_17 rfl rfl ?_
  refine sim_get (k := 50) (ci := 8) (j := 17) (v := .ref (Ea E 68)) (hL 50 rfl) rfl (by decide) fl_X10_55 rfl dX10_hasAny_18 rfl ?_
  refine sim_iload_n 1 dX10_hasAny_21 rfl rfl ?_
  refine sim_iaload (k := 68) (hL 68 rfl) rfl rfl dX10_hasAny_22 rfl ?_
  refine sim_iadd dX10_hasAny_23 rfl ?_
  refine sim_icmp_ge 80 dX10_hasAny_24 rfl rfl (fun _ => ?_) (fun _ => ?_)
  · exact sim_sub [] rfl (hK80 w)
  · refine sim_aload_n 0 dX10_hasAny_27 rfl rfl ?_
    refine sim_iload_n 1 dX10_hasAny_28 rfl rfl ?_
    refine sim_aload_n 0 dX10_hasAny_29 rfl rfl ?_
    refine sim_get (k := 50) (ci := 8) (j := 18) (v := .ref (Ea E 69)) (hL 50 rfl) rfl (by decide) fl_X10_58 rfl dX10_hasAny_30 rfl ?_
    refine sim_iload_n 2 dX10_hasAny_33 rfl rfl ?_
    refine sim_iaload (k := 69) (hL 69 rfl) rfl rfl dX10_hasAny_34 rfl ?_
    refine sim_aload_n 0 dX10_hasAny_35 rfl rfl ?_
    refine sim_get (k := 50) (ci := 8) (j := 19) (v := .ref (Ea E 70)) (hL 50 rfl) rfl (by decide) fl_X10_61 rfl dX10_hasAny_36 rfl ?_
    refine sim_iload_n 2 dX10_hasAny_39 rfl rfl ?_
    refine sim_iaload (k := 70) (hL 70 rfl) rfl rfl dX10_hasAny_40 rfl ?_
    refine sim_aload_n 0 dX10_hasAny_41 rfl rfl ?_
    refine sim_get (k := 50) (ci := 8) (j := 20) (v := .ref (Ea E 71)) (hL 50 rfl) rfl (by decide) fl_X10_64 rfl dX10_hasAny_42 rfl ?_
    refine sim_iload_n 2 dX10_hasAny_45 rfl rfl ?_
    refine sim_iaload (k := 71) (hL 71 rfl) rfl rfl dX10_hasAny_46 rfl ?_
    refine sim_aload_n 0 dX10_hasAny_47 rfl rfl ?_
    refine sim_get (k := 50) (ci := 8) (j := 21) (v := .ref (Ea E 72)) (hL 50 rfl) rfl (by decide) fl_X10_67 rfl dX10_hasAny_48 rfl ?_
    refine sim_iload_n 2 dX10_hasAny_51 rfl rfl ?_
    refine sim_iaload (k := 72) (hL 72 rfl) rfl rfl dX10_hasAny_52 rfl ?_
    refine sim_cVv (k := 50) (ci := 8) [.int v1, .int (w.1 69 (Int32.toNatClampNeg v2)), .int (w.1 70 (Int32.toNatClampNeg v2)), .int (w.1 71 (Int32.toNatClampNeg v2)), .int (w.1 72 (Int32.toNatClampNeg v2))] [] (c_X10_make hL v1 (w.1 69 (Int32.toNatClampNeg v2)) (w.1 70 (Int32.toNatClampNeg v2)) (w.1 71 (Int32.toNatClampNeg v2)) (w.1 72 (Int32.toNatClampNeg v2)) w) (hL 50 rfl) rfl (by decide) rfl cb_X10_238 im_X10_make se_X10_make rfl rfl rfl (Nat.le_of_ble_eq_true rfl) dX10_hasAny_53 rfl (fun _ w3 => ?_)
    refine sim_aload_n 0 dX10_hasAny_56 rfl rfl ?_
    refine sim_iload_n 1 dX10_hasAny_57 rfl rfl ?_
    refine sim_iconst (1 : Int32) dX10_hasAny_58 rfl rfl ?_
    refine sim_iadd dX10_hasAny_59 rfl ?_
    refine sim_aload_n 0 dX10_hasAny_60 rfl rfl ?_
    refine sim_get (k := 50) (ci := 8) (j := 11) (v := .ref (Ea E 62)) (hL 50 rfl) rfl (by decide) fl_X10_37 rfl dX10_hasAny_61 rfl ?_
    refine sim_iload_n 1 dX10_hasAny_64 rfl rfl ?_
    refine sim_iaload (k := 62) (hL 62 rfl) rfl rfl dX10_hasAny_65 rfl ?_
    refine sim_cVi (k := 50) (ci := 8) [.int (v1 + (1 : Int32)), .int (w3.1 62 (Int32.toNatClampNeg v1))] [] (c_X10_inCheck hL (v1 + (1 : Int32)) (w3.1 62 (Int32.toNatClampNeg v1)) w3) (hL 50 rfl) rfl (by decide) rfl cb_X10_241 im_X10_inCheck se_X10_inCheck rfl rfl rfl (Nat.le_of_ble_eq_true rfl) dX10_hasAny_66 rfl (fun x4 w5 => ?_)
    refine sim_if_ne 74 dX10_hasAny_69 rfl rfl (fun _ => ?_) (fun _ => ?_)
    · refine sim_iinc (v2 + (1 : Int32)) 2 [(2, .int (v2 + (1 : Int32))), (0, .ref (Ea E 50)), (1, .int v1)] dX10_hasAny_74 rfl rfl (Nat.le_of_ble_eq_true rfl) rfl rfl ?_
      refine sim_goto (q := 11) dX10_hasAny_77 rfl ?_
      exact sim_sub [1, 2, 0] rfl (hR v1 (v2 + (1 : Int32)) w5)
    · exact sim_sub [] rfl (hK72 w5)
def l_X10_hasAny_11 (K72 : Wd → Option (Int32 × Wd)) (K80 : Wd → Option (Int32 × Wd)) (n : Nat) : Int32 → Int32 → Wd → Option (Int32 × Wd) := itr (fun _ _ _ => none) (fun R => b_X10_hasAny_11 R K72 K80) n
set_option maxRecDepth 20000 in
theorem sl_X10_hasAny_11 {E : Ev} (hL : LM E) {K72 : Wd → Option (Int32 × Wd)} (hK72 : ∀ (w : Wd), Sim E m_X10_hasAny rI 72 [] [] w (K72  w)) {K80 : Wd → Option (Int32 × Wd)} (hK80 : ∀ (w : Wd), Sim E m_X10_hasAny rI 80 [] [] w (K80  w)) : ∀ (n : Nat) (v1 : Int32) (v2 : Int32) (w : Wd), Sim E m_X10_hasAny rI 11 [(0, .ref (Ea E 50)), (1, .int v1), (2, .int v2)] [] w (l_X10_hasAny_11 K72 K80 n v1 v2 w) := by
  intro n
  induction n with
  | zero => intros; exact sim_none
  | succ n ih => intros; exact sb_X10_hasAny_11 hL (R := l_X10_hasAny_11 K72 K80 n) ih hK72 hK80 _ _ _
def f_X10_hasAny_72 (w : Wd) : Option (Int32 × Wd) :=
  if zb (1 : Int32) = true then some ((1 : Int32), w) else none
set_option maxRecDepth 20000 in
theorem sf_X10_hasAny_72 {E : Ev} (hL : LM E) (w : Wd) : Sim E m_X10_hasAny rI 72 [] [] w (f_X10_hasAny_72 w) := by
  unfold f_X10_hasAny_72
  refine sim_iconst (1 : Int32) dX10_hasAny_72 rfl rfl ?_
  exact sim_zret rfl dX10_hasAny_73
def f_X10_hasAny_80 (w : Wd) : Option (Int32 × Wd) :=
  if zb (0 : Int32) = true then some ((0 : Int32), w) else none
set_option maxRecDepth 20000 in
theorem sf_X10_hasAny_80 {E : Ev} (hL : LM E) (w : Wd) : Sim E m_X10_hasAny rI 80 [] [] w (f_X10_hasAny_80 w) := by
  unfold f_X10_hasAny_80
  refine sim_iconst (0 : Int32) dX10_hasAny_80 rfl rfl ?_
  exact sim_zret rfl dX10_hasAny_81
def f_X10_hasAny (v1 : Int32) (w : Wd) : Option (Int32 × Wd) :=
  bd (f_X10_findTries v1 w) fun _ w1 =>
  lt ((2000 : Int32) * v1) fun x2 =>
  l_X10_hasAny_11 f_X10_hasAny_72 f_X10_hasAny_80 FU v1 x2 w1
set_option maxRecDepth 20000 in
theorem c_X10_hasAny {E : Ev} (hL : LM E) (v1 : Int32) (w : Wd) : Ct E m_X10_hasAny yX10_hasAny rI [.ref (Ea E 50), .int v1] w (f_X10_hasAny v1 w) := by
  refine Ct.of (by decide) ⟨rfl, rfl⟩ (Nat.le_of_ble_eq_true rfl) ?_
  show Sim E m_X10_hasAny rI 0 [(0, .ref (Ea E 50)), (1, .int v1)] [] w (f_X10_hasAny v1 w)
  unfold f_X10_hasAny
  refine sim_aload_n 0 dX10_hasAny_0 rfl rfl ?_
  refine sim_iload_n 1 dX10_hasAny_1 rfl rfl ?_
  refine sim_cVv (k := 50) (ci := 8) [.int v1] [] (c_X10_findTries hL v1 w) (hL 50 rfl) rfl (by decide) rfl cb_X10_235 im_X10_findTries se_X10_findTries rfl rfl rfl (Nat.le_of_ble_eq_true rfl) dX10_hasAny_2 rfl (fun _ w1 => ?_)
  refine sim_sipush (2000 : Int32) dX10_hasAny_5 rfl rfl ?_
  refine sim_iload_n 1 dX10_hasAny_8 rfl rfl ?_
  refine sim_imul dX10_hasAny_9 rfl ?_
  refine sim_lt (fun x2 => ?_)
  refine sim_istore_n [(2, .int x2), (0, .ref (Ea E 50)), (1, .int v1)] dX10_hasAny_10 (Nat.le_of_ble_eq_true rfl) rfl rfl ?_
  exact sim_sub [1, 2, 0] rfl (sl_X10_hasAny_11 hL (sf_X10_hasAny_72 hL) (sf_X10_hasAny_80 hL) FU v1 x2 w1)
def f_X10_isMate_27 (s0 : Int32) (w : Wd) : Option (Int32 × Wd) :=
  if zb s0 = true then some (s0, w) else none
set_option maxRecDepth 20000 in
theorem sf_X10_isMate_27 {E : Ev} (hL : LM E) (s0 : Int32) (w : Wd) : Sim E m_X10_isMate rI 27 [] [.int s0] w (f_X10_isMate_27 s0 w) := by
  unfold f_X10_isMate_27
  exact sim_zret rfl dX10_isMate_27
def f_X10_isMate_26 (w : Wd) : Option (Int32 × Wd) :=
  f_X10_isMate_27 (0 : Int32) w
set_option maxRecDepth 20000 in
theorem sf_X10_isMate_26 {E : Ev} (hL : LM E) (w : Wd) : Sim E m_X10_isMate rI 26 [] [] w (f_X10_isMate_26 w) := by
  unfold f_X10_isMate_26
  refine sim_iconst (0 : Int32) dX10_isMate_26 rfl rfl ?_
  exact sim_sub [] rfl (sf_X10_isMate_27 hL (0 : Int32) w)
def f_X10_isMate (v1 : Int32) (w : Wd) : Option (Int32 × Wd) :=
  if inb v1 16 = true then
  bd (f_X10_inCheck v1 (w.1 62 (Int32.toNatClampNeg v1)) w) fun x1 w2 =>
  if x1 = (0 : Int32) then
  f_X10_isMate_26 w2
  else
  bd (f_X10_hasAny v1 w2) fun x3 w4 =>
  if x3 = (0 : Int32) then
  f_X10_isMate_27 (1 : Int32) w4
  else
  f_X10_isMate_26 w4
  else none
set_option maxRecDepth 20000 in
theorem c_X10_isMate {E : Ev} (hL : LM E) (v1 : Int32) (w : Wd) : Ct E m_X10_isMate yX10_isMate rI [.ref (Ea E 50), .int v1] w (f_X10_isMate v1 w) := by
  refine Ct.of (by decide) ⟨rfl, rfl⟩ (Nat.le_of_ble_eq_true rfl) ?_
  show Sim E m_X10_isMate rI 0 [(0, .ref (Ea E 50)), (1, .int v1)] [] w (f_X10_isMate v1 w)
  unfold f_X10_isMate
  refine sim_aload_n 0 dX10_isMate_0 rfl rfl ?_
  refine sim_iload_n 1 dX10_isMate_1 rfl rfl ?_
  refine sim_aload_n 0 dX10_isMate_2 rfl rfl ?_
  refine sim_get (k := 50) (ci := 8) (j := 11) (v := .ref (Ea E 62)) (hL 50 rfl) rfl (by decide) fl_X10_37 rfl dX10_isMate_3 rfl ?_
  refine sim_iload_n 1 dX10_isMate_6 rfl rfl ?_
  refine sim_iaload (k := 62) (hL 62 rfl) rfl rfl dX10_isMate_7 rfl ?_
  refine sim_cVi (k := 50) (ci := 8) [.int v1, .int (w.1 62 (Int32.toNatClampNeg v1))] [] (c_X10_inCheck hL v1 (w.1 62 (Int32.toNatClampNeg v1)) w) (hL 50 rfl) rfl (by decide) rfl cb_X10_241 im_X10_inCheck se_X10_inCheck rfl rfl rfl (Nat.le_of_ble_eq_true rfl) dX10_isMate_8 rfl (fun x1 w2 => ?_)
  refine sim_if_eq 26 dX10_isMate_11 rfl rfl (fun _ => ?_) (fun _ => ?_)
  · exact sim_sub [] rfl (sf_X10_isMate_26 hL w2)
  · refine sim_aload_n 0 dX10_isMate_14 rfl rfl ?_
    refine sim_iload_n 1 dX10_isMate_15 rfl rfl ?_
    refine sim_cVi (k := 50) (ci := 8) [.int v1] [] (c_X10_hasAny hL v1 w2) (hL 50 rfl) rfl (by decide) rfl cb_X10_244 im_X10_hasAny se_X10_hasAny rfl rfl rfl (Nat.le_of_ble_eq_true rfl) dX10_isMate_16 rfl (fun x3 w4 => ?_)
    refine sim_if_ne 26 dX10_isMate_19 rfl rfl (fun _ => ?_) (fun _ => ?_)
    · exact sim_sub [] rfl (sf_X10_isMate_26 hL w4)
    · refine sim_iconst (1 : Int32) dX10_isMate_22 rfl rfl ?_
      refine sim_goto (q := 27) dX10_isMate_23 rfl ?_
      exact sim_sub [] rfl (sf_X10_isMate_27 hL (1 : Int32) w4)
def f_X10_findMoves_210 (R : Int32 → Int32 → Wd → Option (Unit × Wd)) (K216 : Wd → Option (Unit × Wd)) (v1 : Int32) (v2 : Int32) (w : Wd) : Option (Unit × Wd) :=
  R v1 (v2 + (1 : Int32)) w
set_option maxRecDepth 20000 in
theorem sf_X10_findMoves_210 {E : Ev} (hL : LM E) {R : Int32 → Int32 → Wd → Option (Unit × Wd)} (hR : ∀ (v1 : Int32) (v2 : Int32) (w : Wd), Sim E m_X10_findMoves rV 18 [(0, .ref (Ea E 50)), (1, .int v1), (2, .int v2)] [] w (R v1 v2 w)) {K216 : Wd → Option (Unit × Wd)} (hK216 : ∀ (w : Wd), Sim E m_X10_findMoves rV 216 [] [] w (K216  w)) (v1 : Int32) (v2 : Int32) (w : Wd) : Sim E m_X10_findMoves rV 210 [(0, .ref (Ea E 50)), (1, .int v1), (2, .int v2)] [] w (f_X10_findMoves_210 R K216 v1 v2 w) := by
  unfold f_X10_findMoves_210
  refine sim_iinc (v2 + (1 : Int32)) 2 [(2, .int (v2 + (1 : Int32))), (0, .ref (Ea E 50)), (1, .int v1)] dX10_findMoves_210 rfl rfl (Nat.le_of_ble_eq_true rfl) rfl rfl ?_
  refine sim_goto (q := 18) dX10_findMoves_213 rfl ?_
  exact sim_sub [1, 2, 0] rfl (hR v1 (v2 + (1 : Int32)) w)
def f_X10_findMoves_129 (R : Int32 → Int32 → Wd → Option (Unit × Wd)) (K216 : Wd → Option (Unit × Wd)) (v1 : Int32) (v2 : Int32) (s0 : Int32) (w : Wd) : Option (Unit × Wd) :=
  if s0 = (0 : Int32) then
  f_X10_findMoves_210 R K216 v1 v2 w
  else
  if inb v1 16 = true then
  lt (((2000 : Int32) * v1) + (w.1 63 (Int32.toNatClampNeg v1))) fun x7 =>
  if inb v2 32000 = true then
  if inb x7 32000 = true then
  lw (wdI w 64 (Int32.toNatClampNeg x7) (w.1 69 (Int32.toNatClampNeg v2))) fun w8 =>
  if inb v2 32000 = true then
  if inb x7 32000 = true then
  lw (wdI w8 65 (Int32.toNatClampNeg x7) (w8.1 70 (Int32.toNatClampNeg v2))) fun w9 =>
  if inb v2 32000 = true then
  if inb x7 32000 = true then
  lw (wdI w9 66 (Int32.toNatClampNeg x7) (w9.1 71 (Int32.toNatClampNeg v2))) fun w10 =>
  if inb v2 32000 = true then
  if inb x7 32000 = true then
  lw (wdI w10 67 (Int32.toNatClampNeg x7) (w10.1 72 (Int32.toNatClampNeg v2))) fun w11 =>
  if inb v1 16 = true then
  if inb v1 16 = true then
  lw (wdI w11 63 (Int32.toNatClampNeg v1) ((w11.1 63 (Int32.toNatClampNeg v1)) + (1 : Int32))) fun w12 =>
  f_X10_findMoves_210 R K216 v1 v2 w12
  else none
  else none
  else none
  else none
  else none
  else none
  else none
  else none
  else none
  else none
  else none
set_option maxRecDepth 20000 in
theorem sf_X10_findMoves_129 {E : Ev} (hL : LM E) {R : Int32 → Int32 → Wd → Option (Unit × Wd)} (hR : ∀ (v1 : Int32) (v2 : Int32) (w : Wd), Sim E m_X10_findMoves rV 18 [(0, .ref (Ea E 50)), (1, .int v1), (2, .int v2)] [] w (R v1 v2 w)) {K216 : Wd → Option (Unit × Wd)} (hK216 : ∀ (w : Wd), Sim E m_X10_findMoves rV 216 [] [] w (K216  w)) (v1 : Int32) (v2 : Int32) (s0 : Int32) (w : Wd) : Sim E m_X10_findMoves rV 129 [(0, .ref (Ea E 50)), (1, .int v1), (2, .int v2)] [.int s0] w (f_X10_findMoves_129 R K216 v1 v2 s0 w) := by
  unfold f_X10_findMoves_129
  refine sim_istore_n [(3, .int s0), (0, .ref (Ea E 50)), (1, .int v1), (2, .int v2)] dX10_findMoves_129 (Nat.le_of_ble_eq_true rfl) rfl rfl ?_
  refine sim_iload_n 0 dX10_findMoves_130 rfl rfl ?_
  refine sim_if_eq 210 dX10_findMoves_131 rfl rfl (fun _ => ?_) (fun _ => ?_)
  · exact sim_sub [1, 2, 3] rfl (sf_X10_findMoves_210 hL hR hK216 v1 v2 w)
  · refine sim_sipush (2000 : Int32) dX10_findMoves_134 rfl rfl ?_
    refine sim_iload_n 2 dX10_findMoves_137 rfl rfl ?_
    refine sim_imul dX10_findMoves_138 rfl ?_
    refine sim_aload_n 1 dX10_findMoves_139 rfl rfl ?_
    refine sim_get (k := 50) (ci := 8) (j := 12) (v := .ref (Ea E 63)) (hL 50 rfl) rfl (by decide) fl_X10_40 rfl dX10_findMoves_140 rfl ?_
    refine sim_iload_n 2 dX10_findMoves_143 rfl rfl ?_
    refine sim_iaload (k := 63) (hL 63 rfl) rfl rfl dX10_findMoves_144 rfl ?_
    refine sim_iadd dX10_findMoves_145 rfl ?_
    refine sim_lt (fun x7 => ?_)
    refine sim_istore [(4, .int x7), (3, .int s0), (0, .ref (Ea E 50)), (1, .int v1), (2, .int v2)] dX10_findMoves_146 (Nat.le_of_ble_eq_true rfl) rfl rfl ?_
    refine sim_aload_n 2 dX10_findMoves_148 rfl rfl ?_
    refine sim_get (k := 50) (ci := 8) (j := 13) (v := .ref (Ea E 64)) (hL 50 rfl) rfl (by decide) fl_X10_43 rfl dX10_findMoves_149 rfl ?_
    refine sim_iload 0 dX10_findMoves_152 rfl rfl ?_
    refine sim_aload_n 2 dX10_findMoves_154 rfl rfl ?_
    refine sim_get (k := 50) (ci := 8) (j := 18) (v := .ref (Ea E 69)) (hL 50 rfl) rfl (by decide) fl_X10_58 rfl dX10_findMoves_155 rfl ?_
    refine sim_iload_n 4 dX10_findMoves_158 rfl rfl ?_
    refine sim_iaload (k := 69) (hL 69 rfl) rfl rfl dX10_findMoves_159 rfl ?_
    refine sim_iastore (k := 64) (hL 64 rfl) rfl rfl dX10_findMoves_160 rfl ?_
    refine sim_lw (fun w8 => ?_)
    refine sim_aload_n 2 dX10_findMoves_161 rfl rfl ?_
    refine sim_get (k := 50) (ci := 8) (j := 14) (v := .ref (Ea E 65)) (hL 50 rfl) rfl (by decide) fl_X10_46 rfl dX10_findMoves_162 rfl ?_
    refine sim_iload 0 dX10_findMoves_165 rfl rfl ?_
    refine sim_aload_n 2 dX10_findMoves_167 rfl rfl ?_
    refine sim_get (k := 50) (ci := 8) (j := 19) (v := .ref (Ea E 70)) (hL 50 rfl) rfl (by decide) fl_X10_61 rfl dX10_findMoves_168 rfl ?_
    refine sim_iload_n 4 dX10_findMoves_171 rfl rfl ?_
    refine sim_iaload (k := 70) (hL 70 rfl) rfl rfl dX10_findMoves_172 rfl ?_
    refine sim_iastore (k := 65) (hL 65 rfl) rfl rfl dX10_findMoves_173 rfl ?_
    refine sim_lw (fun w9 => ?_)
    refine sim_aload_n 2 dX10_findMoves_174 rfl rfl ?_
    refine sim_get (k := 50) (ci := 8) (j := 15) (v := .ref (Ea E 66)) (hL 50 rfl) rfl (by decide) fl_X10_49 rfl dX10_findMoves_175 rfl ?_
    refine sim_iload 0 dX10_findMoves_178 rfl rfl ?_
    refine sim_aload_n 2 dX10_findMoves_180 rfl rfl ?_
    refine sim_get (k := 50) (ci := 8) (j := 20) (v := .ref (Ea E 71)) (hL 50 rfl) rfl (by decide) fl_X10_64 rfl dX10_findMoves_181 rfl ?_
    refine sim_iload_n 4 dX10_findMoves_184 rfl rfl ?_
    refine sim_iaload (k := 71) (hL 71 rfl) rfl rfl dX10_findMoves_185 rfl ?_
    refine sim_iastore (k := 66) (hL 66 rfl) rfl rfl dX10_findMoves_186 rfl ?_
    refine sim_lw (fun w10 => ?_)
    refine sim_aload_n 2 dX10_findMoves_187 rfl rfl ?_
    refine sim_get (k := 50) (ci := 8) (j := 16) (v := .ref (Ea E 67)) (hL 50 rfl) rfl (by decide) fl_X10_52 rfl dX10_findMoves_188 rfl ?_
    refine sim_iload 0 dX10_findMoves_191 rfl rfl ?_
    refine sim_aload_n 2 dX10_findMoves_193 rfl rfl ?_
    refine sim_get (k := 50) (ci := 8) (j := 21) (v := .ref (Ea E 72)) (hL 50 rfl) rfl (by decide) fl_X10_67 rfl dX10_findMoves_194 rfl ?_
    refine sim_iload_n 4 dX10_findMoves_197 rfl rfl ?_
    refine sim_iaload (k := 72) (hL 72 rfl) rfl rfl dX10_findMoves_198 rfl ?_
    refine sim_iastore (k := 67) (hL 67 rfl) rfl rfl dX10_findMoves_199 rfl ?_
    refine sim_lw (fun w11 => ?_)
    refine sim_aload_n 2 dX10_findMoves_200 rfl rfl ?_
    refine sim_get (k := 50) (ci := 8) (j := 12) (v := .ref (Ea E 63)) (hL 50 rfl) rfl (by decide) fl_X10_40 rfl dX10_findMoves_201 rfl ?_
    refine sim_iload_n 3 dX10_findMoves_204 rfl rfl ?_
    refine sim_dup2 dX10_findMoves_205 rfl rfl rfl ?_
    refine sim_iaload (k := 63) (hL 63 rfl) rfl rfl dX10_findMoves_206 rfl ?_
    refine sim_iconst (1 : Int32) dX10_findMoves_207 rfl rfl ?_
    refine sim_iadd dX10_findMoves_208 rfl ?_
    refine sim_iastore (k := 63) (hL 63 rfl) rfl rfl dX10_findMoves_209 rfl ?_
    refine sim_lw (fun w12 => ?_)
    exact sim_sub [2, 3, 4] rfl (sf_X10_findMoves_210 hL hR hK216 v1 v2 w12)
def f_X10_findMoves_128 (R : Int32 → Int32 → Wd → Option (Unit × Wd)) (K216 : Wd → Option (Unit × Wd)) (v1 : Int32) (v2 : Int32) (w : Wd) : Option (Unit × Wd) :=
  f_X10_findMoves_129 R K216 v1 v2 (0 : Int32) w
set_option maxRecDepth 20000 in
theorem sf_X10_findMoves_128 {E : Ev} (hL : LM E) {R : Int32 → Int32 → Wd → Option (Unit × Wd)} (hR : ∀ (v1 : Int32) (v2 : Int32) (w : Wd), Sim E m_X10_findMoves rV 18 [(0, .ref (Ea E 50)), (1, .int v1), (2, .int v2)] [] w (R v1 v2 w)) {K216 : Wd → Option (Unit × Wd)} (hK216 : ∀ (w : Wd), Sim E m_X10_findMoves rV 216 [] [] w (K216  w)) (v1 : Int32) (v2 : Int32) (w : Wd) : Sim E m_X10_findMoves rV 128 [(0, .ref (Ea E 50)), (1, .int v1), (2, .int v2)] [] w (f_X10_findMoves_128 R K216 v1 v2 w) := by
  unfold f_X10_findMoves_128
  refine sim_iconst (0 : Int32) dX10_findMoves_128 rfl rfl ?_
  exact sim_sub [0, 1, 2] rfl (sf_X10_findMoves_129 hL hR hK216 v1 v2 (0 : Int32) w)
def f_X10_findMoves_124 (R : Int32 → Int32 → Wd → Option (Unit × Wd)) (K216 : Wd → Option (Unit × Wd)) (v1 : Int32) (v2 : Int32) (w : Wd) : Option (Unit × Wd) :=
  f_X10_findMoves_129 R K216 v1 v2 (1 : Int32) w
set_option maxRecDepth 20000 in
theorem sf_X10_findMoves_124 {E : Ev} (hL : LM E) {R : Int32 → Int32 → Wd → Option (Unit × Wd)} (hR : ∀ (v1 : Int32) (v2 : Int32) (w : Wd), Sim E m_X10_findMoves rV 18 [(0, .ref (Ea E 50)), (1, .int v1), (2, .int v2)] [] w (R v1 v2 w)) {K216 : Wd → Option (Unit × Wd)} (hK216 : ∀ (w : Wd), Sim E m_X10_findMoves rV 216 [] [] w (K216  w)) (v1 : Int32) (v2 : Int32) (w : Wd) : Sim E m_X10_findMoves rV 124 [(0, .ref (Ea E 50)), (1, .int v1), (2, .int v2)] [] w (f_X10_findMoves_124 R K216 v1 v2 w) := by
  unfold f_X10_findMoves_124
  refine sim_iconst (1 : Int32) dX10_findMoves_124 rfl rfl ?_
  refine sim_goto (q := 129) dX10_findMoves_125 rfl ?_
  exact sim_sub [0, 1, 2] rfl (sf_X10_findMoves_129 hL hR hK216 v1 v2 (1 : Int32) w)
def f_X10_findMoves_84 (R : Int32 → Int32 → Wd → Option (Unit × Wd)) (K216 : Wd → Option (Unit × Wd)) (v1 : Int32) (v2 : Int32) (s0 : Int32) (w : Wd) : Option (Unit × Wd) :=
  if s0 = (0 : Int32) then
  f_X10_findMoves_128 R K216 v1 v2 w
  else
  if inb v2 32000 = true then
  if (0 : Int32) ≤ (w.1 69 (Int32.toNatClampNeg v2)) then
  f_X10_findMoves_124 R K216 v1 v2 w
  else
  if inb v2 32000 = true then
  if inb (w.1 72 (Int32.toNatClampNeg v2)) 8 = true then
  if ((w.1 55 (Int32.toNatClampNeg (w.1 72 (Int32.toNatClampNeg v2)))) &&& (2 : Int32)) = (0 : Int32) then
  f_X10_findMoves_124 R K216 v1 v2 w
  else
  bd (f_X10_isMate (v1 + (1 : Int32)) w) fun x13 w14 =>
  if x13 = (0 : Int32) then
  f_X10_findMoves_124 R K216 v1 v2 w14
  else
  f_X10_findMoves_128 R K216 v1 v2 w14
  else none
  else none
  else none
set_option maxRecDepth 20000 in
theorem sf_X10_findMoves_84 {E : Ev} (hL : LM E) {R : Int32 → Int32 → Wd → Option (Unit × Wd)} (hR : ∀ (v1 : Int32) (v2 : Int32) (w : Wd), Sim E m_X10_findMoves rV 18 [(0, .ref (Ea E 50)), (1, .int v1), (2, .int v2)] [] w (R v1 v2 w)) {K216 : Wd → Option (Unit × Wd)} (hK216 : ∀ (w : Wd), Sim E m_X10_findMoves rV 216 [] [] w (K216  w)) (v1 : Int32) (v2 : Int32) (s0 : Int32) (w : Wd) : Sim E m_X10_findMoves rV 84 [(0, .ref (Ea E 50)), (1, .int v1), (2, .int v2)] [.int s0] w (f_X10_findMoves_84 R K216 v1 v2 s0 w) := by
  unfold f_X10_findMoves_84
  refine sim_istore_n [(3, .int s0), (0, .ref (Ea E 50)), (1, .int v1), (2, .int v2)] dX10_findMoves_84 (Nat.le_of_ble_eq_true rfl) rfl rfl ?_
  refine sim_iload_n 0 dX10_findMoves_85 rfl rfl ?_
  refine sim_if_eq 128 dX10_findMoves_86 rfl rfl (fun _ => ?_) (fun _ => ?_)
  · exact sim_sub [1, 2, 3] rfl (sf_X10_findMoves_128 hL hR hK216 v1 v2 w)
  · refine sim_aload_n 1 dX10_findMoves_89 rfl rfl ?_
    refine sim_get (k := 50) (ci := 8) (j := 18) (v := .ref (Ea E 69)) (hL 50 rfl) rfl (by decide) fl_X10_58 rfl dX10_findMoves_90 rfl ?_
    refine sim_iload_n 3 dX10_findMoves_93 rfl rfl ?_
    refine sim_iaload (k := 69) (hL 69 rfl) rfl rfl dX10_findMoves_94 rfl ?_
    refine sim_if_ge 124 dX10_findMoves_95 rfl rfl (fun _ => ?_) (fun _ => ?_)
    · exact sim_sub [1, 2, 3] rfl (sf_X10_findMoves_124 hL hR hK216 v1 v2 w)
    · refine sim_aload_n 1 dX10_findMoves_98 rfl rfl ?_
      refine sim_get (k := 50) (ci := 8) (j := 4) (v := .ref (Ea E 55)) (hL 50 rfl) rfl (by decide) fl_X10_16 rfl dX10_findMoves_99 rfl ?_
      refine sim_aload_n 1 dX10_findMoves_102 rfl rfl ?_
      refine sim_get (k := 50) (ci := 8) (j := 21) (v := .ref (Ea E 72)) (hL 50 rfl) rfl (by decide) fl_X10_67 rfl dX10_findMoves_103 rfl ?_
      refine sim_iload_n 3 dX10_findMoves_106 rfl rfl ?_
      refine sim_iaload (k := 72) (hL 72 rfl) rfl rfl dX10_findMoves_107 rfl ?_
      refine sim_iaload (k := 55) (hL 55 rfl) rfl rfl dX10_findMoves_108 rfl ?_
      refine sim_iconst (2 : Int32) dX10_findMoves_109 rfl rfl ?_
      refine sim_iand dX10_findMoves_110 rfl ?_
      refine sim_if_eq 124 dX10_findMoves_111 rfl rfl (fun _ => ?_) (fun _ => ?_)
      · exact sim_sub [1, 2, 3] rfl (sf_X10_findMoves_124 hL hR hK216 v1 v2 w)
      · refine sim_aload_n 1 dX10_findMoves_114 rfl rfl ?_
        refine sim_iload_n 2 dX10_findMoves_115 rfl rfl ?_
        refine sim_iconst (1 : Int32) dX10_findMoves_116 rfl rfl ?_
        refine sim_iadd dX10_findMoves_117 rfl ?_
        refine sim_cVi (k := 50) (ci := 8) [.int (v1 + (1 : Int32))] [] (c_X10_isMate hL (v1 + (1 : Int32)) w) (hL 50 rfl) rfl (by decide) rfl cb_X10_247 im_X10_isMate se_X10_isMate rfl rfl rfl (Nat.le_of_ble_eq_true rfl) dX10_findMoves_118 rfl (fun x13 w14 => ?_)
        refine sim_if_ne 128 dX10_findMoves_121 rfl rfl (fun _ => ?_) (fun _ => ?_)
        · exact sim_sub [1, 2, 3] rfl (sf_X10_findMoves_128 hL hR hK216 v1 v2 w14)
        · exact sim_sub [1, 2, 3] rfl (sf_X10_findMoves_124 hL hR hK216 v1 v2 w14)
def b_X10_findMoves_18 (R : Int32 → Int32 → Wd → Option (Unit × Wd)) (K216 : Wd → Option (Unit × Wd)) (v1 : Int32) (v2 : Int32) (w : Wd) : Option (Unit × Wd) :=
  if inb v1 16 = true then
  if (((2000 : Int32) * v1) + (w.1 68 (Int32.toNatClampNeg v1))) ≤ v2 then
  K216 w
  else
  if inb v2 32000 = true then
  if inb v2 32000 = true then
  if inb v2 32000 = true then
  if inb v2 32000 = true then
  bd (f_X10_make v1 (w.1 69 (Int32.toNatClampNeg v2)) (w.1 70 (Int32.toNatClampNeg v2)) (w.1 71 (Int32.toNatClampNeg v2)) (w.1 72 (Int32.toNatClampNeg v2)) w) fun _ w4 =>
  if inb v1 16 = true then
  bd (f_X10_inCheck (v1 + (1 : Int32)) (w4.1 62 (Int32.toNatClampNeg v1)) w4) fun x5 w6 =>
  if x5 = (0 : Int32) then
  f_X10_findMoves_84 R K216 v1 v2 (1 : Int32) w6
  else
  f_X10_findMoves_84 R K216 v1 v2 (0 : Int32) w6
  else none
  else none
  else none
  else none
  else none
  else none
set_option maxRecDepth 20000 in
theorem sb_X10_findMoves_18 {E : Ev} (hL : LM E) {R : Int32 → Int32 → Wd → Option (Unit × Wd)} (hR : ∀ (v1 : Int32) (v2 : Int32) (w : Wd), Sim E m_X10_findMoves rV 18 [(0, .ref (Ea E 50)), (1, .int v1), (2, .int v2)] [] w (R v1 v2 w)) {K216 : Wd → Option (Unit × Wd)} (hK216 : ∀ (w : Wd), Sim E m_X10_findMoves rV 216 [] [] w (K216  w)) (v1 : Int32) (v2 : Int32) (w : Wd) : Sim E m_X10_findMoves rV 18 [(0, .ref (Ea E 50)), (1, .int v1), (2, .int v2)] [] w (b_X10_findMoves_18 R K216 v1 v2 w) := by
  unfold b_X10_findMoves_18
  refine sim_iload_n 2 dX10_findMoves_18 rfl rfl ?_
  refine sim_sipush (2000 : Int32) dX10_findMoves_19 rfl rfl ?_
  refine sim_iload_n 1 dX10_findMoves_22 rfl rfl ?_
  refine sim_imul dX10_findMoves_23 rfl ?_
  refine sim_aload_n 0 dX10_findMoves_24 rfl rfl ?_
  refine sim_get (k := 50) (ci := 8) (j := 17) (v := .ref (Ea E 68)) (hL 50 rfl) rfl (by decide) fl_X10_55 rfl dX10_findMoves_25 rfl ?_
  refine sim_iload_n 1 dX10_findMoves_28 rfl rfl ?_
  refine sim_iaload (k := 68) (hL 68 rfl) rfl rfl dX10_findMoves_29 rfl ?_
  refine sim_iadd dX10_findMoves_30 rfl ?_
  refine sim_icmp_ge 216 dX10_findMoves_31 rfl rfl (fun _ => ?_) (fun _ => ?_)
  · exact sim_sub [] rfl (hK216 w)
  · refine sim_aload_n 0 dX10_findMoves_34 rfl rfl ?_
    refine sim_iload_n 1 dX10_findMoves_35 rfl rfl ?_
    refine sim_aload_n 0 dX10_findMoves_36 rfl rfl ?_
    refine sim_get (k := 50) (ci := 8) (j := 18) (v := .ref (Ea E 69)) (hL 50 rfl) rfl (by decide) fl_X10_58 rfl dX10_findMoves_37 rfl ?_
    refine sim_iload_n 2 dX10_findMoves_40 rfl rfl ?_
    refine sim_iaload (k := 69) (hL 69 rfl) rfl rfl dX10_findMoves_41 rfl ?_
    refine sim_aload_n 0 dX10_findMoves_42 rfl rfl ?_
    refine sim_get (k := 50) (ci := 8) (j := 19) (v := .ref (Ea E 70)) (hL 50 rfl) rfl (by decide) fl_X10_61 rfl dX10_findMoves_43 rfl ?_
    refine sim_iload_n 2 dX10_findMoves_46 rfl rfl ?_
    refine sim_iaload (k := 70) (hL 70 rfl) rfl rfl dX10_findMoves_47 rfl ?_
    refine sim_aload_n 0 dX10_findMoves_48 rfl rfl ?_
    refine sim_get (k := 50) (ci := 8) (j := 20) (v := .ref (Ea E 71)) (hL 50 rfl) rfl (by decide) fl_X10_64 rfl dX10_findMoves_49 rfl ?_
    refine sim_iload_n 2 dX10_findMoves_52 rfl rfl ?_
    refine sim_iaload (k := 71) (hL 71 rfl) rfl rfl dX10_findMoves_53 rfl ?_
    refine sim_aload_n 0 dX10_findMoves_54 rfl rfl ?_
    refine sim_get (k := 50) (ci := 8) (j := 21) (v := .ref (Ea E 72)) (hL 50 rfl) rfl (by decide) fl_X10_67 rfl dX10_findMoves_55 rfl ?_
    refine sim_iload_n 2 dX10_findMoves_58 rfl rfl ?_
    refine sim_iaload (k := 72) (hL 72 rfl) rfl rfl dX10_findMoves_59 rfl ?_
    refine sim_cVv (k := 50) (ci := 8) [.int v1, .int (w.1 69 (Int32.toNatClampNeg v2)), .int (w.1 70 (Int32.toNatClampNeg v2)), .int (w.1 71 (Int32.toNatClampNeg v2)), .int (w.1 72 (Int32.toNatClampNeg v2))] [] (c_X10_make hL v1 (w.1 69 (Int32.toNatClampNeg v2)) (w.1 70 (Int32.toNatClampNeg v2)) (w.1 71 (Int32.toNatClampNeg v2)) (w.1 72 (Int32.toNatClampNeg v2)) w) (hL 50 rfl) rfl (by decide) rfl cb_X10_238 im_X10_make se_X10_make rfl rfl rfl (Nat.le_of_ble_eq_true rfl) dX10_findMoves_60 rfl (fun _ w4 => ?_)
    refine sim_aload_n 0 dX10_findMoves_63 rfl rfl ?_
    refine sim_iload_n 1 dX10_findMoves_64 rfl rfl ?_
    refine sim_iconst (1 : Int32) dX10_findMoves_65 rfl rfl ?_
    refine sim_iadd dX10_findMoves_66 rfl ?_
    refine sim_aload_n 0 dX10_findMoves_67 rfl rfl ?_
    refine sim_get (k := 50) (ci := 8) (j := 11) (v := .ref (Ea E 62)) (hL 50 rfl) rfl (by decide) fl_X10_37 rfl dX10_findMoves_68 rfl ?_
    refine sim_iload_n 1 dX10_findMoves_71 rfl rfl ?_
    refine sim_iaload (k := 62) (hL 62 rfl) rfl rfl dX10_findMoves_72 rfl ?_
    refine sim_cVi (k := 50) (ci := 8) [.int (v1 + (1 : Int32)), .int (w4.1 62 (Int32.toNatClampNeg v1))] [] (c_X10_inCheck hL (v1 + (1 : Int32)) (w4.1 62 (Int32.toNatClampNeg v1)) w4) (hL 50 rfl) rfl (by decide) rfl cb_X10_241 im_X10_inCheck se_X10_inCheck rfl rfl rfl (Nat.le_of_ble_eq_true rfl) dX10_findMoves_73 rfl (fun x5 w6 => ?_)
    refine sim_if_ne 83 dX10_findMoves_76 rfl rfl (fun _ => ?_) (fun _ => ?_)
    · refine sim_iconst (0 : Int32) dX10_findMoves_83 rfl rfl ?_
      exact sim_sub [0, 1, 2] rfl (sf_X10_findMoves_84 hL hR hK216 v1 v2 (0 : Int32) w6)
    · refine sim_iconst (1 : Int32) dX10_findMoves_79 rfl rfl ?_
      refine sim_goto (q := 84) dX10_findMoves_80 rfl ?_
      exact sim_sub [0, 1, 2] rfl (sf_X10_findMoves_84 hL hR hK216 v1 v2 (1 : Int32) w6)
def l_X10_findMoves_18 (K216 : Wd → Option (Unit × Wd)) (n : Nat) : Int32 → Int32 → Wd → Option (Unit × Wd) := itr (fun _ _ _ => none) (fun R => b_X10_findMoves_18 R K216) n
set_option maxRecDepth 20000 in
theorem sl_X10_findMoves_18 {E : Ev} (hL : LM E) {K216 : Wd → Option (Unit × Wd)} (hK216 : ∀ (w : Wd), Sim E m_X10_findMoves rV 216 [] [] w (K216  w)) : ∀ (n : Nat) (v1 : Int32) (v2 : Int32) (w : Wd), Sim E m_X10_findMoves rV 18 [(0, .ref (Ea E 50)), (1, .int v1), (2, .int v2)] [] w (l_X10_findMoves_18 K216 n v1 v2 w) := by
  intro n
  induction n with
  | zero => intros; exact sim_none
  | succ n ih => intros; exact sb_X10_findMoves_18 hL (R := l_X10_findMoves_18 K216 n) ih hK216 _ _ _
def f_X10_findMoves_216 (w : Wd) : Option (Unit × Wd) :=
  some ((), w)
set_option maxRecDepth 20000 in
theorem sf_X10_findMoves_216 {E : Ev} (hL : LM E) (w : Wd) : Sim E m_X10_findMoves rV 216 [] [] w (f_X10_findMoves_216 w) := by
  unfold f_X10_findMoves_216
  exact sim_vret rfl dX10_findMoves_216
def f_X10_findMoves (v1 : Int32) (w : Wd) : Option (Unit × Wd) :=
  bd (f_X10_findTries v1 w) fun _ w1 =>
  if inb v1 16 = true then
  lw (wdI w1 63 (Int32.toNatClampNeg v1) (0 : Int32)) fun w2 =>
  lt ((2000 : Int32) * v1) fun x3 =>
  l_X10_findMoves_18 f_X10_findMoves_216 FU v1 x3 w2
  else none
set_option maxRecDepth 20000 in
theorem c_X10_findMoves {E : Ev} (hL : LM E) (v1 : Int32) (w : Wd) : Ct E m_X10_findMoves yX10_findMoves rV [.ref (Ea E 50), .int v1] w (f_X10_findMoves v1 w) := by
  refine Ct.of (by decide) ⟨rfl, rfl⟩ (Nat.le_of_ble_eq_true rfl) ?_
  show Sim E m_X10_findMoves rV 0 [(0, .ref (Ea E 50)), (1, .int v1)] [] w (f_X10_findMoves v1 w)
  unfold f_X10_findMoves
  refine sim_aload_n 0 dX10_findMoves_0 rfl rfl ?_
  refine sim_iload_n 1 dX10_findMoves_1 rfl rfl ?_
  refine sim_cVv (k := 50) (ci := 8) [.int v1] [] (c_X10_findTries hL v1 w) (hL 50 rfl) rfl (by decide) rfl cb_X10_235 im_X10_findTries se_X10_findTries rfl rfl rfl (Nat.le_of_ble_eq_true rfl) dX10_findMoves_2 rfl (fun _ w1 => ?_)
  refine sim_aload_n 0 dX10_findMoves_5 rfl rfl ?_
  refine sim_get (k := 50) (ci := 8) (j := 12) (v := .ref (Ea E 63)) (hL 50 rfl) rfl (by decide) fl_X10_40 rfl dX10_findMoves_6 rfl ?_
  refine sim_iload_n 1 dX10_findMoves_9 rfl rfl ?_
  refine sim_iconst (0 : Int32) dX10_findMoves_10 rfl rfl ?_
  refine sim_iastore (k := 63) (hL 63 rfl) rfl rfl dX10_findMoves_11 rfl ?_
  refine sim_lw (fun w2 => ?_)
  refine sim_sipush (2000 : Int32) dX10_findMoves_12 rfl rfl ?_
  refine sim_iload_n 1 dX10_findMoves_15 rfl rfl ?_
  refine sim_imul dX10_findMoves_16 rfl ?_
  refine sim_lt (fun x3 => ?_)
  refine sim_istore_n [(2, .int x3), (0, .ref (Ea E 50)), (1, .int v1)] dX10_findMoves_17 (Nat.le_of_ble_eq_true rfl) rfl rfl ?_
  exact sim_sub [1, 2, 0] rfl (sl_X10_findMoves_18 hL (sf_X10_findMoves_216 hL) FU v1 x3 w2)
def f_X10_makeMove (v1 : Int32) (v2 : Int32) (w : Wd) : Option (Unit × Wd) :=
  lt (((2000 : Int32) * v1) + v2) fun x1 =>
  if inb x1 32000 = true then
  if inb x1 32000 = true then
  if inb x1 32000 = true then
  if inb x1 32000 = true then
  bd (f_X10_make v1 (w.1 64 (Int32.toNatClampNeg x1)) (w.1 65 (Int32.toNatClampNeg x1)) (w.1 66 (Int32.toNatClampNeg x1)) (w.1 67 (Int32.toNatClampNeg x1)) w) fun _ w2 =>
  some ((), w2)
  else none
  else none
  else none
  else none
set_option maxRecDepth 20000 in
theorem c_X10_makeMove {E : Ev} (hL : LM E) (v1 : Int32) (v2 : Int32) (w : Wd) : Ct E m_X10_makeMove yX10_makeMove rV [.ref (Ea E 50), .int v1, .int v2] w (f_X10_makeMove v1 v2 w) := by
  refine Ct.of (by decide) ⟨rfl, rfl⟩ (Nat.le_of_ble_eq_true rfl) ?_
  show Sim E m_X10_makeMove rV 0 [(0, .ref (Ea E 50)), (1, .int v1), (2, .int v2)] [] w (f_X10_makeMove v1 v2 w)
  unfold f_X10_makeMove
  refine sim_sipush (2000 : Int32) dX10_makeMove_0 rfl rfl ?_
  refine sim_iload_n 1 dX10_makeMove_3 rfl rfl ?_
  refine sim_imul dX10_makeMove_4 rfl ?_
  refine sim_iload_n 2 dX10_makeMove_5 rfl rfl ?_
  refine sim_iadd dX10_makeMove_6 rfl ?_
  refine sim_lt (fun x1 => ?_)
  refine sim_istore_n [(3, .int x1), (0, .ref (Ea E 50)), (1, .int v1), (2, .int v2)] dX10_makeMove_7 (Nat.le_of_ble_eq_true rfl) rfl rfl ?_
  refine sim_aload_n 1 dX10_makeMove_8 rfl rfl ?_
  refine sim_iload_n 2 dX10_makeMove_9 rfl rfl ?_
  refine sim_aload_n 1 dX10_makeMove_10 rfl rfl ?_
  refine sim_get (k := 50) (ci := 8) (j := 13) (v := .ref (Ea E 64)) (hL 50 rfl) rfl (by decide) fl_X10_43 rfl dX10_makeMove_11 rfl ?_
  refine sim_iload_n 0 dX10_makeMove_14 rfl rfl ?_
  refine sim_iaload (k := 64) (hL 64 rfl) rfl rfl dX10_makeMove_15 rfl ?_
  refine sim_aload_n 1 dX10_makeMove_16 rfl rfl ?_
  refine sim_get (k := 50) (ci := 8) (j := 14) (v := .ref (Ea E 65)) (hL 50 rfl) rfl (by decide) fl_X10_46 rfl dX10_makeMove_17 rfl ?_
  refine sim_iload_n 0 dX10_makeMove_20 rfl rfl ?_
  refine sim_iaload (k := 65) (hL 65 rfl) rfl rfl dX10_makeMove_21 rfl ?_
  refine sim_aload_n 1 dX10_makeMove_22 rfl rfl ?_
  refine sim_get (k := 50) (ci := 8) (j := 15) (v := .ref (Ea E 66)) (hL 50 rfl) rfl (by decide) fl_X10_49 rfl dX10_makeMove_23 rfl ?_
  refine sim_iload_n 0 dX10_makeMove_26 rfl rfl ?_
  refine sim_iaload (k := 66) (hL 66 rfl) rfl rfl dX10_makeMove_27 rfl ?_
  refine sim_aload_n 1 dX10_makeMove_28 rfl rfl ?_
  refine sim_get (k := 50) (ci := 8) (j := 16) (v := .ref (Ea E 67)) (hL 50 rfl) rfl (by decide) fl_X10_52 rfl dX10_makeMove_29 rfl ?_
  refine sim_iload_n 0 dX10_makeMove_32 rfl rfl ?_
  refine sim_iaload (k := 67) (hL 67 rfl) rfl rfl dX10_makeMove_33 rfl ?_
  refine sim_cVv (k := 50) (ci := 8) [.int v1, .int (w.1 64 (Int32.toNatClampNeg x1)), .int (w.1 65 (Int32.toNatClampNeg x1)), .int (w.1 66 (Int32.toNatClampNeg x1)), .int (w.1 67 (Int32.toNatClampNeg x1))] [] (c_X10_make hL v1 (w.1 64 (Int32.toNatClampNeg x1)) (w.1 65 (Int32.toNatClampNeg x1)) (w.1 66 (Int32.toNatClampNeg x1)) (w.1 67 (Int32.toNatClampNeg x1)) w) (hL 50 rfl) rfl (by decide) rfl cb_X10_238 im_X10_make se_X10_make rfl rfl rfl (Nat.le_of_ble_eq_true rfl) dX10_makeMove_34 rfl (fun _ w2 => ?_)
  exact sim_vret rfl dX10_makeMove_37
def f_X10_indexOf_73 (R : Int32 → Int32 → Int32 → Int32 → Int32 → Int32 → Wd → Option (Int32 × Wd)) (K70 : Int32 → Wd → Option (Int32 × Wd)) (K79 : Wd → Option (Int32 × Wd)) (v1 : Int32) (v2 : Int32) (v3 : Int32) (v4 : Int32) (v5 : Int32) (v6 : Int32) (w : Wd) : Option (Int32 × Wd) :=
  R v1 v2 v3 v4 v5 (v6 + (1 : Int32)) w
set_option maxRecDepth 20000 in
theorem sf_X10_indexOf_73 {E : Ev} (hL : LM E) {R : Int32 → Int32 → Int32 → Int32 → Int32 → Int32 → Wd → Option (Int32 × Wd)} (hR : ∀ (v1 : Int32) (v2 : Int32) (v3 : Int32) (v4 : Int32) (v5 : Int32) (v6 : Int32) (w : Wd), Sim E m_X10_indexOf rI 3 [(0, .ref (Ea E 50)), (1, .int v1), (2, .int v2), (3, .int v3), (4, .int v4), (5, .int v5), (6, .int v6)] [] w (R v1 v2 v3 v4 v5 v6 w)) {K70 : Int32 → Wd → Option (Int32 × Wd)} (hK70 : ∀ (v6 : Int32) (w : Wd), Sim E m_X10_indexOf rI 70 [(6, .int v6)] [] w (K70 v6 w)) {K79 : Wd → Option (Int32 × Wd)} (hK79 : ∀ (w : Wd), Sim E m_X10_indexOf rI 79 [] [] w (K79  w)) (v1 : Int32) (v2 : Int32) (v3 : Int32) (v4 : Int32) (v5 : Int32) (v6 : Int32) (w : Wd) : Sim E m_X10_indexOf rI 73 [(0, .ref (Ea E 50)), (1, .int v1), (2, .int v2), (3, .int v3), (4, .int v4), (5, .int v5), (6, .int v6)] [] w (f_X10_indexOf_73 R K70 K79 v1 v2 v3 v4 v5 v6 w) := by
  unfold f_X10_indexOf_73
  refine sim_iinc (v6 + (1 : Int32)) 6 [(6, .int (v6 + (1 : Int32))), (0, .ref (Ea E 50)), (1, .int v1), (2, .int v2), (3, .int v3), (4, .int v4), (5, .int v5)] dX10_indexOf_73 rfl rfl (Nat.le_of_ble_eq_true rfl) rfl rfl ?_
  refine sim_goto (q := 3) dX10_indexOf_76 rfl ?_
  exact sim_sub [1, 2, 3, 4, 5, 6, 0] rfl (hR v1 v2 v3 v4 v5 (v6 + (1 : Int32)) w)
def b_X10_indexOf_3 (R : Int32 → Int32 → Int32 → Int32 → Int32 → Int32 → Wd → Option (Int32 × Wd)) (K70 : Int32 → Wd → Option (Int32 × Wd)) (K79 : Wd → Option (Int32 × Wd)) (v1 : Int32) (v2 : Int32) (v3 : Int32) (v4 : Int32) (v5 : Int32) (v6 : Int32) (w : Wd) : Option (Int32 × Wd) :=
  if inb v1 16 = true then
  if (w.1 63 (Int32.toNatClampNeg v1)) ≤ v6 then
  K79 w
  else
  lt (((2000 : Int32) * v1) + v6) fun x1 =>
  if inb x1 32000 = true then
  if (w.1 64 (Int32.toNatClampNeg x1)) = v2 then
  if inb x1 32000 = true then
  if (w.1 65 (Int32.toNatClampNeg x1)) = v3 then
  if inb x1 32000 = true then
  if (w.1 66 (Int32.toNatClampNeg x1)) = v4 then
  if inb x1 32000 = true then
  if (w.1 67 (Int32.toNatClampNeg x1)) = v5 then
  K70 v6 w
  else
  f_X10_indexOf_73 R K70 K79 v1 v2 v3 v4 v5 v6 w
  else none
  else
  f_X10_indexOf_73 R K70 K79 v1 v2 v3 v4 v5 v6 w
  else none
  else
  f_X10_indexOf_73 R K70 K79 v1 v2 v3 v4 v5 v6 w
  else none
  else
  f_X10_indexOf_73 R K70 K79 v1 v2 v3 v4 v5 v6 w
  else none
  else none
set_option maxRecDepth 20000 in
theorem sb_X10_indexOf_3 {E : Ev} (hL : LM E) {R : Int32 → Int32 → Int32 → Int32 → Int32 → Int32 → Wd → Option (Int32 × Wd)} (hR : ∀ (v1 : Int32) (v2 : Int32) (v3 : Int32) (v4 : Int32) (v5 : Int32) (v6 : Int32) (w : Wd), Sim E m_X10_indexOf rI 3 [(0, .ref (Ea E 50)), (1, .int v1), (2, .int v2), (3, .int v3), (4, .int v4), (5, .int v5), (6, .int v6)] [] w (R v1 v2 v3 v4 v5 v6 w)) {K70 : Int32 → Wd → Option (Int32 × Wd)} (hK70 : ∀ (v6 : Int32) (w : Wd), Sim E m_X10_indexOf rI 70 [(6, .int v6)] [] w (K70 v6 w)) {K79 : Wd → Option (Int32 × Wd)} (hK79 : ∀ (w : Wd), Sim E m_X10_indexOf rI 79 [] [] w (K79  w)) (v1 : Int32) (v2 : Int32) (v3 : Int32) (v4 : Int32) (v5 : Int32) (v6 : Int32) (w : Wd) : Sim E m_X10_indexOf rI 3 [(0, .ref (Ea E 50)), (1, .int v1), (2, .int v2), (3, .int v3), (4, .int v4), (5, .int v5), (6, .int v6)] [] w (b_X10_indexOf_3 R K70 K79 v1 v2 v3 v4 v5 v6 w) := by
  unfold b_X10_indexOf_3
  refine sim_iload 6 dX10_indexOf_3 rfl rfl ?_
  refine sim_aload_n 0 dX10_indexOf_5 rfl rfl ?_
  refine sim_get (k := 50) (ci := 8) (j := 12) (v := .ref (Ea E 63)) (hL 50 rfl) rfl (by decide) fl_X10_40 rfl dX10_indexOf_6 rfl ?_
  refine sim_iload_n 1 dX10_indexOf_9 rfl rfl ?_
  refine sim_iaload (k := 63) (hL 63 rfl) rfl rfl dX10_indexOf_10 rfl ?_
  refine sim_icmp_ge 79 dX10_indexOf_11 rfl rfl (fun _ => ?_) (fun _ => ?_)
  · exact sim_sub [] rfl (hK79 w)
  · refine sim_sipush (2000 : Int32) dX10_indexOf_14 rfl rfl ?_
    refine sim_iload_n 1 dX10_indexOf_17 rfl rfl ?_
    refine sim_imul dX10_indexOf_18 rfl ?_
    refine sim_iload 6 dX10_indexOf_19 rfl rfl ?_
    refine sim_iadd dX10_indexOf_21 rfl ?_
    refine sim_lt (fun x1 => ?_)
    refine sim_istore [(7, .int x1), (0, .ref (Ea E 50)), (1, .int v1), (2, .int v2), (3, .int v3), (4, .int v4), (5, .int v5), (6, .int v6)] dX10_indexOf_22 (Nat.le_of_ble_eq_true rfl) rfl rfl ?_
    refine sim_aload_n 1 dX10_indexOf_24 rfl rfl ?_
    refine sim_get (k := 50) (ci := 8) (j := 13) (v := .ref (Ea E 64)) (hL 50 rfl) rfl (by decide) fl_X10_43 rfl dX10_indexOf_25 rfl ?_
    refine sim_iload 0 dX10_indexOf_28 rfl rfl ?_
    refine sim_iaload (k := 64) (hL 64 rfl) rfl rfl dX10_indexOf_30 rfl ?_
    refine sim_iload_n 3 dX10_indexOf_31 rfl rfl ?_
    refine sim_icmp_ne 73 dX10_indexOf_32 rfl rfl (fun _ => ?_) (fun _ => ?_)
    · exact sim_sub [1, 2, 3, 4, 5, 6, 7] rfl (sf_X10_indexOf_73 hL hR hK70 hK79 v1 v2 v3 v4 v5 v6 w)
    · refine sim_aload_n 1 dX10_indexOf_35 rfl rfl ?_
      refine sim_get (k := 50) (ci := 8) (j := 14) (v := .ref (Ea E 65)) (hL 50 rfl) rfl (by decide) fl_X10_46 rfl dX10_indexOf_36 rfl ?_
      refine sim_iload 0 dX10_indexOf_39 rfl rfl ?_
      refine sim_iaload (k := 65) (hL 65 rfl) rfl rfl dX10_indexOf_41 rfl ?_
      refine sim_iload_n 4 dX10_indexOf_42 rfl rfl ?_
      refine sim_icmp_ne 73 dX10_indexOf_43 rfl rfl (fun _ => ?_) (fun _ => ?_)
      · exact sim_sub [1, 2, 3, 4, 5, 6, 7] rfl (sf_X10_indexOf_73 hL hR hK70 hK79 v1 v2 v3 v4 v5 v6 w)
      · refine sim_aload_n 1 dX10_indexOf_46 rfl rfl ?_
        refine sim_get (k := 50) (ci := 8) (j := 15) (v := .ref (Ea E 66)) (hL 50 rfl) rfl (by decide) fl_X10_49 rfl dX10_indexOf_47 rfl ?_
        refine sim_iload 0 dX10_indexOf_50 rfl rfl ?_
        refine sim_iaload (k := 66) (hL 66 rfl) rfl rfl dX10_indexOf_52 rfl ?_
        refine sim_iload 5 dX10_indexOf_53 rfl rfl ?_
        refine sim_icmp_ne 73 dX10_indexOf_55 rfl rfl (fun _ => ?_) (fun _ => ?_)
        · exact sim_sub [1, 2, 3, 4, 5, 6, 7] rfl (sf_X10_indexOf_73 hL hR hK70 hK79 v1 v2 v3 v4 v5 v6 w)
        · refine sim_aload_n 1 dX10_indexOf_58 rfl rfl ?_
          refine sim_get (k := 50) (ci := 8) (j := 16) (v := .ref (Ea E 67)) (hL 50 rfl) rfl (by decide) fl_X10_52 rfl dX10_indexOf_59 rfl ?_
          refine sim_iload 0 dX10_indexOf_62 rfl rfl ?_
          refine sim_iaload (k := 67) (hL 67 rfl) rfl rfl dX10_indexOf_64 rfl ?_
          refine sim_iload 6 dX10_indexOf_65 rfl rfl ?_
          refine sim_icmp_ne 73 dX10_indexOf_67 rfl rfl (fun _ => ?_) (fun _ => ?_)
          · exact sim_sub [1, 2, 3, 4, 5, 6, 7] rfl (sf_X10_indexOf_73 hL hR hK70 hK79 v1 v2 v3 v4 v5 v6 w)
          · exact sim_sub [7] rfl (hK70 v6 w)
def l_X10_indexOf_3 (K70 : Int32 → Wd → Option (Int32 × Wd)) (K79 : Wd → Option (Int32 × Wd)) (n : Nat) : Int32 → Int32 → Int32 → Int32 → Int32 → Int32 → Wd → Option (Int32 × Wd) := itr (fun _ _ _ _ _ _ _ => none) (fun R => b_X10_indexOf_3 R K70 K79) n
set_option maxRecDepth 20000 in
theorem sl_X10_indexOf_3 {E : Ev} (hL : LM E) {K70 : Int32 → Wd → Option (Int32 × Wd)} (hK70 : ∀ (v6 : Int32) (w : Wd), Sim E m_X10_indexOf rI 70 [(6, .int v6)] [] w (K70 v6 w)) {K79 : Wd → Option (Int32 × Wd)} (hK79 : ∀ (w : Wd), Sim E m_X10_indexOf rI 79 [] [] w (K79  w)) : ∀ (n : Nat) (v1 : Int32) (v2 : Int32) (v3 : Int32) (v4 : Int32) (v5 : Int32) (v6 : Int32) (w : Wd), Sim E m_X10_indexOf rI 3 [(0, .ref (Ea E 50)), (1, .int v1), (2, .int v2), (3, .int v3), (4, .int v4), (5, .int v5), (6, .int v6)] [] w (l_X10_indexOf_3 K70 K79 n v1 v2 v3 v4 v5 v6 w) := by
  intro n
  induction n with
  | zero => intros; exact sim_none
  | succ n ih => intros; exact sb_X10_indexOf_3 hL (R := l_X10_indexOf_3 K70 K79 n) ih hK70 hK79 _ _ _ _ _ _ _
def f_X10_indexOf_70 (v6 : Int32) (w : Wd) : Option (Int32 × Wd) :=
  some (v6, w)
set_option maxRecDepth 20000 in
theorem sf_X10_indexOf_70 {E : Ev} (hL : LM E) (v6 : Int32) (w : Wd) : Sim E m_X10_indexOf rI 70 [(6, .int v6)] [] w (f_X10_indexOf_70 v6 w) := by
  unfold f_X10_indexOf_70
  refine sim_iload 0 dX10_indexOf_70 rfl rfl ?_
  exact sim_iret rfl dX10_indexOf_72
def f_X10_indexOf_79 (w : Wd) : Option (Int32 × Wd) :=
  some ((-1 : Int32), w)
set_option maxRecDepth 20000 in
theorem sf_X10_indexOf_79 {E : Ev} (hL : LM E) (w : Wd) : Sim E m_X10_indexOf rI 79 [] [] w (f_X10_indexOf_79 w) := by
  unfold f_X10_indexOf_79
  refine sim_iconst (-1 : Int32) dX10_indexOf_79 rfl rfl ?_
  exact sim_iret rfl dX10_indexOf_80
def f_X10_indexOf (v1 : Int32) (v2 : Int32) (v3 : Int32) (v4 : Int32) (v5 : Int32) (w : Wd) : Option (Int32 × Wd) :=
  l_X10_indexOf_3 f_X10_indexOf_70 f_X10_indexOf_79 FU v1 v2 v3 v4 v5 (0 : Int32) w
set_option maxRecDepth 20000 in
theorem c_X10_indexOf {E : Ev} (hL : LM E) (v1 : Int32) (v2 : Int32) (v3 : Int32) (v4 : Int32) (v5 : Int32) (w : Wd) : Ct E m_X10_indexOf yX10_indexOf rI [.ref (Ea E 50), .int v1, .int v2, .int v3, .int v4, .int v5] w (f_X10_indexOf v1 v2 v3 v4 v5 w) := by
  refine Ct.of (by decide) ⟨rfl, rfl⟩ (Nat.le_of_ble_eq_true rfl) ?_
  show Sim E m_X10_indexOf rI 0 [(0, .ref (Ea E 50)), (1, .int v1), (2, .int v2), (3, .int v3), (4, .int v4), (5, .int v5)] [] w (f_X10_indexOf v1 v2 v3 v4 v5 w)
  unfold f_X10_indexOf
  refine sim_iconst (0 : Int32) dX10_indexOf_0 rfl rfl ?_
  refine sim_istore [(6, .int (0 : Int32)), (0, .ref (Ea E 50)), (1, .int v1), (2, .int v2), (3, .int v3), (4, .int v4), (5, .int v5)] dX10_indexOf_1 (Nat.le_of_ble_eq_true rfl) rfl rfl ?_
  exact sim_sub [1, 2, 3, 4, 5, 6, 0] rfl (sl_X10_indexOf_3 hL (sf_X10_indexOf_70 hL) (sf_X10_indexOf_79 hL) FU v1 v2 v3 v4 v5 (0 : Int32) w)
def f_X10_hand_34 (w : Wd) : Option (Int32 × Wd) :=
  some ((-2 : Int32), w)
set_option maxRecDepth 20000 in
theorem sf_X10_hand_34 {E : Ev} (hL : LM E) (w : Wd) : Sim E m_X10_hand rI 34 [] [] w (f_X10_hand_34 w) := by
  unfold f_X10_hand_34
  refine sim_bipush (-2 : Int32) dX10_hand_34 rfl rfl ?_
  exact sim_iret rfl dX10_hand_36
def f_X10_hand (v1 : Int32) (v2 : Int32) (v3 : Int32) (w : Wd) : Option (Int32 × Wd) :=
  bd (f_X10_in (Int32.toInt64 v1) (0 : Int64) (1 : Int64) w) fun x1 w2 =>
  if x1 = (0 : Int32) then
  f_X10_hand_34 w2
  else
  bd (f_X10_in (Int32.toInt64 v2) (1 : Int64) (7 : Int64) w2) fun x3 w4 =>
  if x3 = (0 : Int32) then
  f_X10_hand_34 w4
  else
  bd (f_X10_in (Int32.toInt64 v3) (0 : Int64) (9 : Int64) w4) fun x5 w6 =>
  if x5 = (0 : Int32) then
  f_X10_hand_34 w6
  else
  if (w6.1 50 25) = (0 : Int32) then
  if inb (((8 : Int32) * v1) + v2) 16 = true then
  lt (w6.1 77 (Int32.toNatClampNeg (((8 : Int32) * v1) + v2))) fun x7 =>
  if inb (((8 : Int32) * v1) + v2) 16 = true then
  lw (wdI w6 77 (Int32.toNatClampNeg (((8 : Int32) * v1) + v2)) v3) fun w8 =>
  some (x7, w8)
  else none
  else none
  else
  some ((-3 : Int32), w6)
set_option maxRecDepth 20000 in
theorem c_X10_hand {E : Ev} (hL : LM E) (v1 : Int32) (v2 : Int32) (v3 : Int32) (w : Wd) : Ct E m_X10_hand yX10_hand rI [.ref (Ea E 50), .int v1, .int v2, .int v3] w (f_X10_hand v1 v2 v3 w) := by
  refine Ct.of (by decide) ⟨rfl, rfl⟩ (Nat.le_of_ble_eq_true rfl) ?_
  show Sim E m_X10_hand rI 0 [(0, .ref (Ea E 50)), (1, .int v1), (2, .int v2), (3, .int v3)] [] w (f_X10_hand v1 v2 v3 w)
  unfold f_X10_hand
  refine sim_iload_n 1 dX10_hand_0 rfl rfl ?_
  refine sim_i2l dX10_hand_1 rfl ?_
  refine sim_lconst (0 : Int64) dX10_hand_2 rfl rfl ?_
  refine sim_lconst (1 : Int64) dX10_hand_3 rfl rfl ?_
  refine sim_cSi [.long (Int32.toInt64 v1), .long (0 : Int64), .long (1 : Int64)] [] (c_X10_in hL (Int32.toInt64 v1) (0 : Int64) (1 : Int64) w) cb_X10_139 sx_X10_in rfl rfl rfl (Nat.le_of_ble_eq_true rfl) dX10_hand_4 rfl (fun x1 w2 => ?_)
  refine sim_if_eq 34 dX10_hand_7 rfl rfl (fun _ => ?_) (fun _ => ?_)
  · exact sim_sub [] rfl (sf_X10_hand_34 hL w2)
  · refine sim_iload_n 2 dX10_hand_10 rfl rfl ?_
    refine sim_i2l dX10_hand_11 rfl ?_
    refine sim_lconst (1 : Int64) dX10_hand_12 rfl rfl ?_
    refine sim_ldc2 (7 : Int64) dX10_hand_13 k_X10_137 rfl ?_
    refine sim_cSi [.long (Int32.toInt64 v2), .long (1 : Int64), .long (7 : Int64)] [] (c_X10_in hL (Int32.toInt64 v2) (1 : Int64) (7 : Int64) w2) cb_X10_139 sx_X10_in rfl rfl rfl (Nat.le_of_ble_eq_true rfl) dX10_hand_16 rfl (fun x3 w4 => ?_)
    refine sim_if_eq 34 dX10_hand_19 rfl rfl (fun _ => ?_) (fun _ => ?_)
    · exact sim_sub [] rfl (sf_X10_hand_34 hL w4)
    · refine sim_iload_n 3 dX10_hand_22 rfl rfl ?_
      refine sim_i2l dX10_hand_23 rfl ?_
      refine sim_lconst (0 : Int64) dX10_hand_24 rfl rfl ?_
      refine sim_ldc2 (9 : Int64) dX10_hand_25 k_X10_250 rfl ?_
      refine sim_cSi [.long (Int32.toInt64 v3), .long (0 : Int64), .long (9 : Int64)] [] (c_X10_in hL (Int32.toInt64 v3) (0 : Int64) (9 : Int64) w4) cb_X10_139 sx_X10_in rfl rfl rfl (Nat.le_of_ble_eq_true rfl) dX10_hand_28 rfl (fun x5 w6 => ?_)
      refine sim_if_ne 37 dX10_hand_31 rfl rfl (fun _ => ?_) (fun _ => ?_)
      · refine sim_aload_n 0 dX10_hand_37 rfl rfl ?_
        refine sim_get (k := 50) (ci := 8) (j := 25) (v := .int (w6.1 50 25)) (hL 50 rfl) rfl (by decide) fl_X10_159 rfl dX10_hand_38 rfl ?_
        refine sim_if_eq 47 dX10_hand_41 rfl rfl (fun _ => ?_) (fun _ => ?_)
        · refine sim_aload_n 0 dX10_hand_47 rfl rfl ?_
          refine sim_get (k := 50) (ci := 8) (j := 26) (v := .ref (Ea E 77)) (hL 50 rfl) rfl (by decide) fl_X10_77 rfl dX10_hand_48 rfl ?_
          refine sim_bipush (8 : Int32) dX10_hand_51 rfl rfl ?_
          refine sim_iload_n 1 dX10_hand_53 rfl rfl ?_
          refine sim_imul dX10_hand_54 rfl ?_
          refine sim_iload_n 2 dX10_hand_55 rfl rfl ?_
          refine sim_iadd dX10_hand_56 rfl ?_
          refine sim_iaload (k := 77) (hL 77 rfl) rfl rfl dX10_hand_57 rfl ?_
          refine sim_lt (fun x7 => ?_)
          refine sim_istore [(4, .int x7), (0, .ref (Ea E 50)), (1, .int v1), (2, .int v2), (3, .int v3)] dX10_hand_58 (Nat.le_of_ble_eq_true rfl) rfl rfl ?_
          refine sim_aload_n 1 dX10_hand_60 rfl rfl ?_
          refine sim_get (k := 50) (ci := 8) (j := 26) (v := .ref (Ea E 77)) (hL 50 rfl) rfl (by decide) fl_X10_77 rfl dX10_hand_61 rfl ?_
          refine sim_bipush (8 : Int32) dX10_hand_64 rfl rfl ?_
          refine sim_iload_n 2 dX10_hand_66 rfl rfl ?_
          refine sim_imul dX10_hand_67 rfl ?_
          refine sim_iload_n 3 dX10_hand_68 rfl rfl ?_
          refine sim_iadd dX10_hand_69 rfl ?_
          refine sim_iload_n 4 dX10_hand_70 rfl rfl ?_
          refine sim_iastore (k := 77) (hL 77 rfl) rfl rfl dX10_hand_71 rfl ?_
          refine sim_lw (fun w8 => ?_)
          refine sim_iload 0 dX10_hand_72 rfl rfl ?_
          exact sim_iret rfl dX10_hand_74
        · refine sim_bipush (-3 : Int32) dX10_hand_44 rfl rfl ?_
          exact sim_iret rfl dX10_hand_46
      · exact sim_sub [] rfl (sf_X10_hand_34 hL w6)
def b_X10_keepStand_11 (R : Int32 → Int32 → Wd → Option (Unit × Wd)) (K43 : Int32 → Wd → Option (Unit × Wd)) (v3 : Int32) (v4 : Int32) (w : Wd) : Option (Unit × Wd) :=
  if (49 : Int32) ≤ v4 then
  K43 v3 w
  else
  if inb v4 784 = true then
  if inb (((49 : Int32) * v3) + v4) 29498 = true then
  lw (wdI w 78 (Int32.toNatClampNeg (((49 : Int32) * v3) + v4)) (w.1 60 (Int32.toNatClampNeg v4))) fun w2 =>
  R v3 (v4 + (1 : Int32)) w2
  else none
  else none
set_option maxRecDepth 20000 in
theorem sb_X10_keepStand_11 {E : Ev} (hL : LM E) {R : Int32 → Int32 → Wd → Option (Unit × Wd)} (hR : ∀ (v3 : Int32) (v4 : Int32) (w : Wd), Sim E m_X10_keepStand rV 11 [(0, .ref (Ea E 50)), (3, .int v3), (4, .int v4)] [] w (R v3 v4 w)) {K43 : Int32 → Wd → Option (Unit × Wd)} (hK43 : ∀ (v3 : Int32) (w : Wd), Sim E m_X10_keepStand rV 43 [(0, .ref (Ea E 50)), (3, .int v3)] [] w (K43 v3 w)) (v3 : Int32) (v4 : Int32) (w : Wd) : Sim E m_X10_keepStand rV 11 [(0, .ref (Ea E 50)), (3, .int v3), (4, .int v4)] [] w (b_X10_keepStand_11 R K43 v3 v4 w) := by
  unfold b_X10_keepStand_11
  refine sim_iload 2 dX10_keepStand_11 rfl rfl ?_
  refine sim_bipush (49 : Int32) dX10_keepStand_13 rfl rfl ?_
  refine sim_icmp_ge 43 dX10_keepStand_15 rfl rfl (fun _ => ?_) (fun _ => ?_)
  · exact sim_sub [0, 1] rfl (hK43 v3 w)
  · refine sim_aload_n 0 dX10_keepStand_18 rfl rfl ?_
    refine sim_get (k := 50) (ci := 8) (j := 27) (v := .ref (Ea E 78)) (hL 50 rfl) rfl (by decide) fl_X10_80 rfl dX10_keepStand_19 rfl ?_
    refine sim_bipush (49 : Int32) dX10_keepStand_22 rfl rfl ?_
    refine sim_iload_n 1 dX10_keepStand_24 rfl rfl ?_
    refine sim_imul dX10_keepStand_25 rfl ?_
    refine sim_iload 2 dX10_keepStand_26 rfl rfl ?_
    refine sim_iadd dX10_keepStand_28 rfl ?_
    refine sim_aload_n 0 dX10_keepStand_29 rfl rfl ?_
    refine sim_get (k := 50) (ci := 8) (j := 9) (v := .ref (Ea E 60)) (hL 50 rfl) rfl (by decide) fl_X10_31 rfl dX10_keepStand_30 rfl ?_
    refine sim_iload 2 dX10_keepStand_33 rfl rfl ?_
    refine sim_iaload (k := 60) (hL 60 rfl) rfl rfl dX10_keepStand_35 rfl ?_
    refine sim_iastore (k := 78) (hL 78 rfl) rfl rfl dX10_keepStand_36 rfl ?_
    refine sim_lw (fun w2 => ?_)
    refine sim_iinc (v4 + (1 : Int32)) 2 [(4, .int (v4 + (1 : Int32))), (0, .ref (Ea E 50)), (3, .int v3)] dX10_keepStand_37 rfl rfl (Nat.le_of_ble_eq_true rfl) rfl rfl ?_
    refine sim_goto (q := 11) dX10_keepStand_40 rfl ?_
    exact sim_sub [1, 2, 0] rfl (hR v3 (v4 + (1 : Int32)) w2)
def l_X10_keepStand_11 (K43 : Int32 → Wd → Option (Unit × Wd)) (n : Nat) : Int32 → Int32 → Wd → Option (Unit × Wd) := itr (fun _ _ _ => none) (fun R => b_X10_keepStand_11 R K43) n
set_option maxRecDepth 20000 in
theorem sl_X10_keepStand_11 {E : Ev} (hL : LM E) {K43 : Int32 → Wd → Option (Unit × Wd)} (hK43 : ∀ (v3 : Int32) (w : Wd), Sim E m_X10_keepStand rV 43 [(0, .ref (Ea E 50)), (3, .int v3)] [] w (K43 v3 w)) : ∀ (n : Nat) (v3 : Int32) (v4 : Int32) (w : Wd), Sim E m_X10_keepStand rV 11 [(0, .ref (Ea E 50)), (3, .int v3), (4, .int v4)] [] w (l_X10_keepStand_11 K43 n v3 v4 w) := by
  intro n
  induction n with
  | zero => intros; exact sim_none
  | succ n ih => intros; exact sb_X10_keepStand_11 hL (R := l_X10_keepStand_11 K43 n) ih hK43 _ _ _
def b_X10_keepStand_46 (R : Int32 → Int32 → Wd → Option (Unit × Wd)) (K78 : Int32 → Wd → Option (Unit × Wd)) (v3 : Int32) (v4 : Int32) (w : Wd) : Option (Unit × Wd) :=
  if (16 : Int32) ≤ v4 then
  K78 v3 w
  else
  if inb v4 256 = true then
  if inb (((16 : Int32) * v3) + v4) 9632 = true then
  lw (wdI w 79 (Int32.toNatClampNeg (((16 : Int32) * v3) + v4)) (w.1 61 (Int32.toNatClampNeg v4))) fun w3 =>
  R v3 (v4 + (1 : Int32)) w3
  else none
  else none
set_option maxRecDepth 20000 in
theorem sb_X10_keepStand_46 {E : Ev} (hL : LM E) {R : Int32 → Int32 → Wd → Option (Unit × Wd)} (hR : ∀ (v3 : Int32) (v4 : Int32) (w : Wd), Sim E m_X10_keepStand rV 46 [(0, .ref (Ea E 50)), (3, .int v3), (4, .int v4)] [] w (R v3 v4 w)) {K78 : Int32 → Wd → Option (Unit × Wd)} (hK78 : ∀ (v3 : Int32) (w : Wd), Sim E m_X10_keepStand rV 78 [(0, .ref (Ea E 50)), (3, .int v3)] [] w (K78 v3 w)) (v3 : Int32) (v4 : Int32) (w : Wd) : Sim E m_X10_keepStand rV 46 [(0, .ref (Ea E 50)), (3, .int v3), (4, .int v4)] [] w (b_X10_keepStand_46 R K78 v3 v4 w) := by
  unfold b_X10_keepStand_46
  refine sim_iload 2 dX10_keepStand_46 rfl rfl ?_
  refine sim_bipush (16 : Int32) dX10_keepStand_48 rfl rfl ?_
  refine sim_icmp_ge 78 dX10_keepStand_50 rfl rfl (fun _ => ?_) (fun _ => ?_)
  · exact sim_sub [0, 1] rfl (hK78 v3 w)
  · refine sim_aload_n 0 dX10_keepStand_53 rfl rfl ?_
    refine sim_get (k := 50) (ci := 8) (j := 28) (v := .ref (Ea E 79)) (hL 50 rfl) rfl (by decide) fl_X10_83 rfl dX10_keepStand_54 rfl ?_
    refine sim_bipush (16 : Int32) dX10_keepStand_57 rfl rfl ?_
    refine sim_iload_n 1 dX10_keepStand_59 rfl rfl ?_
    refine sim_imul dX10_keepStand_60 rfl ?_
    refine sim_iload 2 dX10_keepStand_61 rfl rfl ?_
    refine sim_iadd dX10_keepStand_63 rfl ?_
    refine sim_aload_n 0 dX10_keepStand_64 rfl rfl ?_
    refine sim_get (k := 50) (ci := 8) (j := 10) (v := .ref (Ea E 61)) (hL 50 rfl) rfl (by decide) fl_X10_34 rfl dX10_keepStand_65 rfl ?_
    refine sim_iload 2 dX10_keepStand_68 rfl rfl ?_
    refine sim_iaload (k := 61) (hL 61 rfl) rfl rfl dX10_keepStand_70 rfl ?_
    refine sim_iastore (k := 79) (hL 79 rfl) rfl rfl dX10_keepStand_71 rfl ?_
    refine sim_lw (fun w3 => ?_)
    refine sim_iinc (v4 + (1 : Int32)) 2 [(4, .int (v4 + (1 : Int32))), (0, .ref (Ea E 50)), (3, .int v3)] dX10_keepStand_72 rfl rfl (Nat.le_of_ble_eq_true rfl) rfl rfl ?_
    refine sim_goto (q := 46) dX10_keepStand_75 rfl ?_
    exact sim_sub [1, 2, 0] rfl (hR v3 (v4 + (1 : Int32)) w3)
def l_X10_keepStand_46 (K78 : Int32 → Wd → Option (Unit × Wd)) (n : Nat) : Int32 → Int32 → Wd → Option (Unit × Wd) := itr (fun _ _ _ => none) (fun R => b_X10_keepStand_46 R K78) n
set_option maxRecDepth 20000 in
theorem sl_X10_keepStand_46 {E : Ev} (hL : LM E) {K78 : Int32 → Wd → Option (Unit × Wd)} (hK78 : ∀ (v3 : Int32) (w : Wd), Sim E m_X10_keepStand rV 78 [(0, .ref (Ea E 50)), (3, .int v3)] [] w (K78 v3 w)) : ∀ (n : Nat) (v3 : Int32) (v4 : Int32) (w : Wd), Sim E m_X10_keepStand rV 46 [(0, .ref (Ea E 50)), (3, .int v3), (4, .int v4)] [] w (l_X10_keepStand_46 K78 n v3 v4 w) := by
  intro n
  induction n with
  | zero => intros; exact sim_none
  | succ n ih => intros; exact sb_X10_keepStand_46 hL (R := l_X10_keepStand_46 K78 n) ih hK78 _ _ _
def f_X10_keepStand_78 (v3 : Int32) (w : Wd) : Option (Unit × Wd) :=
  if inb (0 : Int32) 16 = true then
  if inb v3 602 = true then
  lw (wdI w 80 (Int32.toNatClampNeg v3) (w.1 62 (Int32.toNatClampNeg (0 : Int32)))) fun w4 =>
  some ((), w4)
  else none
  else none
set_option maxRecDepth 20000 in
theorem sf_X10_keepStand_78 {E : Ev} (hL : LM E) (v3 : Int32) (w : Wd) : Sim E m_X10_keepStand rV 78 [(0, .ref (Ea E 50)), (3, .int v3)] [] w (f_X10_keepStand_78 v3 w) := by
  unfold f_X10_keepStand_78
  refine sim_aload_n 0 dX10_keepStand_78 rfl rfl ?_
  refine sim_get (k := 50) (ci := 8) (j := 29) (v := .ref (Ea E 80)) (hL 50 rfl) rfl (by decide) fl_X10_86 rfl dX10_keepStand_79 rfl ?_
  refine sim_iload_n 1 dX10_keepStand_82 rfl rfl ?_
  refine sim_aload_n 0 dX10_keepStand_83 rfl rfl ?_
  refine sim_get (k := 50) (ci := 8) (j := 11) (v := .ref (Ea E 62)) (hL 50 rfl) rfl (by decide) fl_X10_37 rfl dX10_keepStand_84 rfl ?_
  refine sim_iconst (0 : Int32) dX10_keepStand_87 rfl rfl ?_
  refine sim_iaload (k := 62) (hL 62 rfl) rfl rfl dX10_keepStand_88 rfl ?_
  refine sim_iastore (k := 80) (hL 80 rfl) rfl rfl dX10_keepStand_89 rfl ?_
  refine sim_lw (fun w4 => ?_)
  exact sim_vret rfl dX10_keepStand_90
def f_X10_keepStand_43 (v3 : Int32) (w : Wd) : Option (Unit × Wd) :=
  l_X10_keepStand_46 f_X10_keepStand_78 FU v3 (0 : Int32) w
set_option maxRecDepth 20000 in
theorem sf_X10_keepStand_43 {E : Ev} (hL : LM E) (v3 : Int32) (w : Wd) : Sim E m_X10_keepStand rV 43 [(0, .ref (Ea E 50)), (3, .int v3)] [] w (f_X10_keepStand_43 v3 w) := by
  unfold f_X10_keepStand_43
  refine sim_iconst (0 : Int32) dX10_keepStand_43 rfl rfl ?_
  refine sim_istore [(4, .int (0 : Int32)), (0, .ref (Ea E 50)), (3, .int v3)] dX10_keepStand_44 (Nat.le_of_ble_eq_true rfl) rfl rfl ?_
  exact sim_sub [1, 2, 0] rfl (sl_X10_keepStand_46 hL (sf_X10_keepStand_78 hL) FU v3 (0 : Int32) w)
def f_X10_keepStand (v1 : Int32) (v2 : Int32) (w : Wd) : Option (Unit × Wd) :=
  lt (((301 : Int32) * v1) + v2) fun x1 =>
  l_X10_keepStand_11 f_X10_keepStand_43 FU x1 (0 : Int32) w
set_option maxRecDepth 20000 in
theorem c_X10_keepStand {E : Ev} (hL : LM E) (v1 : Int32) (v2 : Int32) (w : Wd) : Ct E m_X10_keepStand yX10_keepStand rV [.ref (Ea E 50), .int v1, .int v2] w (f_X10_keepStand v1 v2 w) := by
  refine Ct.of (by decide) ⟨rfl, rfl⟩ (Nat.le_of_ble_eq_true rfl) ?_
  show Sim E m_X10_keepStand rV 0 [(0, .ref (Ea E 50)), (1, .int v1), (2, .int v2)] [] w (f_X10_keepStand v1 v2 w)
  unfold f_X10_keepStand
  refine sim_sipush (301 : Int32) dX10_keepStand_0 rfl rfl ?_
  refine sim_iload_n 1 dX10_keepStand_3 rfl rfl ?_
  refine sim_imul dX10_keepStand_4 rfl ?_
  refine sim_iload_n 2 dX10_keepStand_5 rfl rfl ?_
  refine sim_iadd dX10_keepStand_6 rfl ?_
  refine sim_lt (fun x1 => ?_)
  refine sim_istore_n [(3, .int x1), (0, .ref (Ea E 50)), (1, .int v1), (2, .int v2)] dX10_keepStand_7 (Nat.le_of_ble_eq_true rfl) rfl rfl ?_
  refine sim_iconst (0 : Int32) dX10_keepStand_8 rfl rfl ?_
  refine sim_istore [(4, .int (0 : Int32)), (3, .int x1), (0, .ref (Ea E 50)), (1, .int v1), (2, .int v2)] dX10_keepStand_9 (Nat.le_of_ble_eq_true rfl) rfl rfl ?_
  exact sim_sub [2, 1, 0] rfl (sl_X10_keepStand_11 hL (sf_X10_keepStand_43 hL) FU x1 (0 : Int32) w)
def b_X10_layStand_11 (R : Int32 → Int32 → Wd → Option (Unit × Wd)) (K43 : Int32 → Wd → Option (Unit × Wd)) (v3 : Int32) (v4 : Int32) (w : Wd) : Option (Unit × Wd) :=
  if (49 : Int32) ≤ v4 then
  K43 v3 w
  else
  if inb (((49 : Int32) * v3) + v4) 29498 = true then
  if inb v4 784 = true then
  lw (wdI w 60 (Int32.toNatClampNeg v4) (w.1 78 (Int32.toNatClampNeg (((49 : Int32) * v3) + v4)))) fun w2 =>
  R v3 (v4 + (1 : Int32)) w2
  else none
  else none
set_option maxRecDepth 20000 in
theorem sb_X10_layStand_11 {E : Ev} (hL : LM E) {R : Int32 → Int32 → Wd → Option (Unit × Wd)} (hR : ∀ (v3 : Int32) (v4 : Int32) (w : Wd), Sim E m_X10_layStand rV 11 [(0, .ref (Ea E 50)), (3, .int v3), (4, .int v4)] [] w (R v3 v4 w)) {K43 : Int32 → Wd → Option (Unit × Wd)} (hK43 : ∀ (v3 : Int32) (w : Wd), Sim E m_X10_layStand rV 43 [(0, .ref (Ea E 50)), (3, .int v3)] [] w (K43 v3 w)) (v3 : Int32) (v4 : Int32) (w : Wd) : Sim E m_X10_layStand rV 11 [(0, .ref (Ea E 50)), (3, .int v3), (4, .int v4)] [] w (b_X10_layStand_11 R K43 v3 v4 w) := by
  unfold b_X10_layStand_11
  refine sim_iload 2 dX10_layStand_11 rfl rfl ?_
  refine sim_bipush (49 : Int32) dX10_layStand_13 rfl rfl ?_
  refine sim_icmp_ge 43 dX10_layStand_15 rfl rfl (fun _ => ?_) (fun _ => ?_)
  · exact sim_sub [0, 1] rfl (hK43 v3 w)
  · refine sim_aload_n 0 dX10_layStand_18 rfl rfl ?_
    refine sim_get (k := 50) (ci := 8) (j := 9) (v := .ref (Ea E 60)) (hL 50 rfl) rfl (by decide) fl_X10_31 rfl dX10_layStand_19 rfl ?_
    refine sim_iload 2 dX10_layStand_22 rfl rfl ?_
    refine sim_aload_n 0 dX10_layStand_24 rfl rfl ?_
    refine sim_get (k := 50) (ci := 8) (j := 27) (v := .ref (Ea E 78)) (hL 50 rfl) rfl (by decide) fl_X10_80 rfl dX10_layStand_25 rfl ?_
    refine sim_bipush (49 : Int32) dX10_layStand_28 rfl rfl ?_
    refine sim_iload_n 1 dX10_layStand_30 rfl rfl ?_
    refine sim_imul dX10_layStand_31 rfl ?_
    refine sim_iload 2 dX10_layStand_32 rfl rfl ?_
    refine sim_iadd dX10_layStand_34 rfl ?_
    refine sim_iaload (k := 78) (hL 78 rfl) rfl rfl dX10_layStand_35 rfl ?_
    refine sim_iastore (k := 60) (hL 60 rfl) rfl rfl dX10_layStand_36 rfl ?_
    refine sim_lw (fun w2 => ?_)
    refine sim_iinc (v4 + (1 : Int32)) 2 [(4, .int (v4 + (1 : Int32))), (0, .ref (Ea E 50)), (3, .int v3)] dX10_layStand_37 rfl rfl (Nat.le_of_ble_eq_true rfl) rfl rfl ?_
    refine sim_goto (q := 11) dX10_layStand_40 rfl ?_
    exact sim_sub [1, 2, 0] rfl (hR v3 (v4 + (1 : Int32)) w2)
def l_X10_layStand_11 (K43 : Int32 → Wd → Option (Unit × Wd)) (n : Nat) : Int32 → Int32 → Wd → Option (Unit × Wd) := itr (fun _ _ _ => none) (fun R => b_X10_layStand_11 R K43) n
set_option maxRecDepth 20000 in
theorem sl_X10_layStand_11 {E : Ev} (hL : LM E) {K43 : Int32 → Wd → Option (Unit × Wd)} (hK43 : ∀ (v3 : Int32) (w : Wd), Sim E m_X10_layStand rV 43 [(0, .ref (Ea E 50)), (3, .int v3)] [] w (K43 v3 w)) : ∀ (n : Nat) (v3 : Int32) (v4 : Int32) (w : Wd), Sim E m_X10_layStand rV 11 [(0, .ref (Ea E 50)), (3, .int v3), (4, .int v4)] [] w (l_X10_layStand_11 K43 n v3 v4 w) := by
  intro n
  induction n with
  | zero => intros; exact sim_none
  | succ n ih => intros; exact sb_X10_layStand_11 hL (R := l_X10_layStand_11 K43 n) ih hK43 _ _ _
def b_X10_layStand_46 (R : Int32 → Int32 → Wd → Option (Unit × Wd)) (K78 : Int32 → Wd → Option (Unit × Wd)) (v3 : Int32) (v4 : Int32) (w : Wd) : Option (Unit × Wd) :=
  if (16 : Int32) ≤ v4 then
  K78 v3 w
  else
  if inb (((16 : Int32) * v3) + v4) 9632 = true then
  if inb v4 256 = true then
  lw (wdI w 61 (Int32.toNatClampNeg v4) (w.1 79 (Int32.toNatClampNeg (((16 : Int32) * v3) + v4)))) fun w3 =>
  R v3 (v4 + (1 : Int32)) w3
  else none
  else none
set_option maxRecDepth 20000 in
theorem sb_X10_layStand_46 {E : Ev} (hL : LM E) {R : Int32 → Int32 → Wd → Option (Unit × Wd)} (hR : ∀ (v3 : Int32) (v4 : Int32) (w : Wd), Sim E m_X10_layStand rV 46 [(0, .ref (Ea E 50)), (3, .int v3), (4, .int v4)] [] w (R v3 v4 w)) {K78 : Int32 → Wd → Option (Unit × Wd)} (hK78 : ∀ (v3 : Int32) (w : Wd), Sim E m_X10_layStand rV 78 [(0, .ref (Ea E 50)), (3, .int v3)] [] w (K78 v3 w)) (v3 : Int32) (v4 : Int32) (w : Wd) : Sim E m_X10_layStand rV 46 [(0, .ref (Ea E 50)), (3, .int v3), (4, .int v4)] [] w (b_X10_layStand_46 R K78 v3 v4 w) := by
  unfold b_X10_layStand_46
  refine sim_iload 2 dX10_layStand_46 rfl rfl ?_
  refine sim_bipush (16 : Int32) dX10_layStand_48 rfl rfl ?_
  refine sim_icmp_ge 78 dX10_layStand_50 rfl rfl (fun _ => ?_) (fun _ => ?_)
  · exact sim_sub [0, 1] rfl (hK78 v3 w)
  · refine sim_aload_n 0 dX10_layStand_53 rfl rfl ?_
    refine sim_get (k := 50) (ci := 8) (j := 10) (v := .ref (Ea E 61)) (hL 50 rfl) rfl (by decide) fl_X10_34 rfl dX10_layStand_54 rfl ?_
    refine sim_iload 2 dX10_layStand_57 rfl rfl ?_
    refine sim_aload_n 0 dX10_layStand_59 rfl rfl ?_
    refine sim_get (k := 50) (ci := 8) (j := 28) (v := .ref (Ea E 79)) (hL 50 rfl) rfl (by decide) fl_X10_83 rfl dX10_layStand_60 rfl ?_
    refine sim_bipush (16 : Int32) dX10_layStand_63 rfl rfl ?_
    refine sim_iload_n 1 dX10_layStand_65 rfl rfl ?_
    refine sim_imul dX10_layStand_66 rfl ?_
    refine sim_iload 2 dX10_layStand_67 rfl rfl ?_
    refine sim_iadd dX10_layStand_69 rfl ?_
    refine sim_iaload (k := 79) (hL 79 rfl) rfl rfl dX10_layStand_70 rfl ?_
    refine sim_iastore (k := 61) (hL 61 rfl) rfl rfl dX10_layStand_71 rfl ?_
    refine sim_lw (fun w3 => ?_)
    refine sim_iinc (v4 + (1 : Int32)) 2 [(4, .int (v4 + (1 : Int32))), (0, .ref (Ea E 50)), (3, .int v3)] dX10_layStand_72 rfl rfl (Nat.le_of_ble_eq_true rfl) rfl rfl ?_
    refine sim_goto (q := 46) dX10_layStand_75 rfl ?_
    exact sim_sub [1, 2, 0] rfl (hR v3 (v4 + (1 : Int32)) w3)
def l_X10_layStand_46 (K78 : Int32 → Wd → Option (Unit × Wd)) (n : Nat) : Int32 → Int32 → Wd → Option (Unit × Wd) := itr (fun _ _ _ => none) (fun R => b_X10_layStand_46 R K78) n
set_option maxRecDepth 20000 in
theorem sl_X10_layStand_46 {E : Ev} (hL : LM E) {K78 : Int32 → Wd → Option (Unit × Wd)} (hK78 : ∀ (v3 : Int32) (w : Wd), Sim E m_X10_layStand rV 78 [(0, .ref (Ea E 50)), (3, .int v3)] [] w (K78 v3 w)) : ∀ (n : Nat) (v3 : Int32) (v4 : Int32) (w : Wd), Sim E m_X10_layStand rV 46 [(0, .ref (Ea E 50)), (3, .int v3), (4, .int v4)] [] w (l_X10_layStand_46 K78 n v3 v4 w) := by
  intro n
  induction n with
  | zero => intros; exact sim_none
  | succ n ih => intros; exact sb_X10_layStand_46 hL (R := l_X10_layStand_46 K78 n) ih hK78 _ _ _
def f_X10_layStand_78 (v3 : Int32) (w : Wd) : Option (Unit × Wd) :=
  if inb v3 602 = true then
  if inb (0 : Int32) 16 = true then
  lw (wdI w 62 (Int32.toNatClampNeg (0 : Int32)) (w.1 80 (Int32.toNatClampNeg v3))) fun w4 =>
  some ((), w4)
  else none
  else none
set_option maxRecDepth 20000 in
theorem sf_X10_layStand_78 {E : Ev} (hL : LM E) (v3 : Int32) (w : Wd) : Sim E m_X10_layStand rV 78 [(0, .ref (Ea E 50)), (3, .int v3)] [] w (f_X10_layStand_78 v3 w) := by
  unfold f_X10_layStand_78
  refine sim_aload_n 0 dX10_layStand_78 rfl rfl ?_
  refine sim_get (k := 50) (ci := 8) (j := 11) (v := .ref (Ea E 62)) (hL 50 rfl) rfl (by decide) fl_X10_37 rfl dX10_layStand_79 rfl ?_
  refine sim_iconst (0 : Int32) dX10_layStand_82 rfl rfl ?_
  refine sim_aload_n 0 dX10_layStand_83 rfl rfl ?_
  refine sim_get (k := 50) (ci := 8) (j := 29) (v := .ref (Ea E 80)) (hL 50 rfl) rfl (by decide) fl_X10_86 rfl dX10_layStand_84 rfl ?_
  refine sim_iload_n 1 dX10_layStand_87 rfl rfl ?_
  refine sim_iaload (k := 80) (hL 80 rfl) rfl rfl dX10_layStand_88 rfl ?_
  refine sim_iastore (k := 62) (hL 62 rfl) rfl rfl dX10_layStand_89 rfl ?_
  refine sim_lw (fun w4 => ?_)
  exact sim_vret rfl dX10_layStand_90
def f_X10_layStand_43 (v3 : Int32) (w : Wd) : Option (Unit × Wd) :=
  l_X10_layStand_46 f_X10_layStand_78 FU v3 (0 : Int32) w
set_option maxRecDepth 20000 in
theorem sf_X10_layStand_43 {E : Ev} (hL : LM E) (v3 : Int32) (w : Wd) : Sim E m_X10_layStand rV 43 [(0, .ref (Ea E 50)), (3, .int v3)] [] w (f_X10_layStand_43 v3 w) := by
  unfold f_X10_layStand_43
  refine sim_iconst (0 : Int32) dX10_layStand_43 rfl rfl ?_
  refine sim_istore [(4, .int (0 : Int32)), (0, .ref (Ea E 50)), (3, .int v3)] dX10_layStand_44 (Nat.le_of_ble_eq_true rfl) rfl rfl ?_
  exact sim_sub [1, 2, 0] rfl (sl_X10_layStand_46 hL (sf_X10_layStand_78 hL) FU v3 (0 : Int32) w)
def f_X10_layStand (v1 : Int32) (v2 : Int32) (w : Wd) : Option (Unit × Wd) :=
  lt (((301 : Int32) * v1) + v2) fun x1 =>
  l_X10_layStand_11 f_X10_layStand_43 FU x1 (0 : Int32) w
set_option maxRecDepth 20000 in
theorem c_X10_layStand {E : Ev} (hL : LM E) (v1 : Int32) (v2 : Int32) (w : Wd) : Ct E m_X10_layStand yX10_layStand rV [.ref (Ea E 50), .int v1, .int v2] w (f_X10_layStand v1 v2 w) := by
  refine Ct.of (by decide) ⟨rfl, rfl⟩ (Nat.le_of_ble_eq_true rfl) ?_
  show Sim E m_X10_layStand rV 0 [(0, .ref (Ea E 50)), (1, .int v1), (2, .int v2)] [] w (f_X10_layStand v1 v2 w)
  unfold f_X10_layStand
  refine sim_sipush (301 : Int32) dX10_layStand_0 rfl rfl ?_
  refine sim_iload_n 1 dX10_layStand_3 rfl rfl ?_
  refine sim_imul dX10_layStand_4 rfl ?_
  refine sim_iload_n 2 dX10_layStand_5 rfl rfl ?_
  refine sim_iadd dX10_layStand_6 rfl ?_
  refine sim_lt (fun x1 => ?_)
  refine sim_istore_n [(3, .int x1), (0, .ref (Ea E 50)), (1, .int v1), (2, .int v2)] dX10_layStand_7 (Nat.le_of_ble_eq_true rfl) rfl rfl ?_
  refine sim_iconst (0 : Int32) dX10_layStand_8 rfl rfl ?_
  refine sim_istore [(4, .int (0 : Int32)), (3, .int x1), (0, .ref (Ea E 50)), (1, .int v1), (2, .int v2)] dX10_layStand_9 (Nat.le_of_ble_eq_true rfl) rfl rfl ?_
  exact sim_sub [2, 1, 0] rfl (sl_X10_layStand_11 hL (sf_X10_layStand_43 hL) FU x1 (0 : Int32) w)
def f_X10_areSame_67 (R : Int32 → Int32 → Int32 → Int32 → Wd → Option (Int32 × Wd)) (K74 : Int32 → Int32 → Int32 → Wd → Option (Int32 × Wd)) (v1 : Int32) (v2 : Int32) (v4 : Int32) (s0 : Int32) (w : Wd) : Option (Int32 × Wd) :=
  R v1 v2 s0 (v4 + (1 : Int32)) w
set_option maxRecDepth 20000 in
theorem sf_X10_areSame_67 {E : Ev} (hL : LM E) {R : Int32 → Int32 → Int32 → Int32 → Wd → Option (Int32 × Wd)} (hR : ∀ (v1 : Int32) (v2 : Int32) (v3 : Int32) (v4 : Int32) (w : Wd), Sim E m_X10_areSame rI 24 [(0, .ref (Ea E 50)), (1, .int v1), (2, .int v2), (3, .int v3), (4, .int v4)] [] w (R v1 v2 v3 v4 w)) {K74 : Int32 → Int32 → Int32 → Wd → Option (Int32 × Wd)} (hK74 : ∀ (v1 : Int32) (v2 : Int32) (v3 : Int32) (w : Wd), Sim E m_X10_areSame rI 74 [(0, .ref (Ea E 50)), (1, .int v1), (2, .int v2), (3, .int v3)] [] w (K74 v1 v2 v3 w)) (v1 : Int32) (v2 : Int32) (v4 : Int32) (s0 : Int32) (w : Wd) : Sim E m_X10_areSame rI 67 [(0, .ref (Ea E 50)), (1, .int v1), (2, .int v2), (4, .int v4)] [.int s0] w (f_X10_areSame_67 R K74 v1 v2 v4 s0 w) := by
  unfold f_X10_areSame_67
  refine sim_istore_n [(3, .int s0), (0, .ref (Ea E 50)), (1, .int v1), (2, .int v2), (4, .int v4)] dX10_areSame_67 (Nat.le_of_ble_eq_true rfl) rfl rfl ?_
  refine sim_iinc (v4 + (1 : Int32)) 4 [(4, .int (v4 + (1 : Int32))), (3, .int s0), (0, .ref (Ea E 50)), (1, .int v1), (2, .int v2)] dX10_areSame_68 rfl rfl (Nat.le_of_ble_eq_true rfl) rfl rfl ?_
  refine sim_goto (q := 24) dX10_areSame_71 rfl ?_
  exact sim_sub [2, 3, 4, 1, 0] rfl (hR v1 v2 s0 (v4 + (1 : Int32)) w)
def b_X10_areSame_24 (R : Int32 → Int32 → Int32 → Int32 → Wd → Option (Int32 × Wd)) (K74 : Int32 → Int32 → Int32 → Wd → Option (Int32 × Wd)) (v1 : Int32) (v2 : Int32) (v3 : Int32) (v4 : Int32) (w : Wd) : Option (Int32 × Wd) :=
  if (49 : Int32) ≤ v4 then
  K74 v1 v2 v3 w
  else
  if v3 = (0 : Int32) then
  K74 v1 v2 v3 w
  else
  if inb (((49 : Int32) * v1) + v4) 29498 = true then
  if inb (((49 : Int32) * v2) + v4) 29498 = true then
  if (w.1 78 (Int32.toNatClampNeg (((49 : Int32) * v1) + v4))) = (w.1 78 (Int32.toNatClampNeg (((49 : Int32) * v2) + v4))) then
  f_X10_areSame_67 R K74 v1 v2 v4 (1 : Int32) w
  else
  f_X10_areSame_67 R K74 v1 v2 v4 (0 : Int32) w
  else none
  else none
set_option maxRecDepth 20000 in
theorem sb_X10_areSame_24 {E : Ev} (hL : LM E) {R : Int32 → Int32 → Int32 → Int32 → Wd → Option (Int32 × Wd)} (hR : ∀ (v1 : Int32) (v2 : Int32) (v3 : Int32) (v4 : Int32) (w : Wd), Sim E m_X10_areSame rI 24 [(0, .ref (Ea E 50)), (1, .int v1), (2, .int v2), (3, .int v3), (4, .int v4)] [] w (R v1 v2 v3 v4 w)) {K74 : Int32 → Int32 → Int32 → Wd → Option (Int32 × Wd)} (hK74 : ∀ (v1 : Int32) (v2 : Int32) (v3 : Int32) (w : Wd), Sim E m_X10_areSame rI 74 [(0, .ref (Ea E 50)), (1, .int v1), (2, .int v2), (3, .int v3)] [] w (K74 v1 v2 v3 w)) (v1 : Int32) (v2 : Int32) (v3 : Int32) (v4 : Int32) (w : Wd) : Sim E m_X10_areSame rI 24 [(0, .ref (Ea E 50)), (1, .int v1), (2, .int v2), (3, .int v3), (4, .int v4)] [] w (b_X10_areSame_24 R K74 v1 v2 v3 v4 w) := by
  unfold b_X10_areSame_24
  refine sim_iload 4 dX10_areSame_24 rfl rfl ?_
  refine sim_bipush (49 : Int32) dX10_areSame_26 rfl rfl ?_
  refine sim_icmp_ge 74 dX10_areSame_28 rfl rfl (fun _ => ?_) (fun _ => ?_)
  · exact sim_sub [0, 1, 2, 3] rfl (hK74 v1 v2 v3 w)
  · refine sim_iload_n 3 dX10_areSame_31 rfl rfl ?_
    refine sim_if_eq 74 dX10_areSame_32 rfl rfl (fun _ => ?_) (fun _ => ?_)
    · exact sim_sub [0, 1, 2, 3] rfl (hK74 v1 v2 v3 w)
    · refine sim_aload_n 0 dX10_areSame_35 rfl rfl ?_
      refine sim_get (k := 50) (ci := 8) (j := 27) (v := .ref (Ea E 78)) (hL 50 rfl) rfl (by decide) fl_X10_80 rfl dX10_areSame_36 rfl ?_
      refine sim_bipush (49 : Int32) dX10_areSame_39 rfl rfl ?_
      refine sim_iload_n 1 dX10_areSame_41 rfl rfl ?_
      refine sim_imul dX10_areSame_42 rfl ?_
      refine sim_iload 4 dX10_areSame_43 rfl rfl ?_
      refine sim_iadd dX10_areSame_45 rfl ?_
      refine sim_iaload (k := 78) (hL 78 rfl) rfl rfl dX10_areSame_46 rfl ?_
      refine sim_aload_n 0 dX10_areSame_47 rfl rfl ?_
      refine sim_get (k := 50) (ci := 8) (j := 27) (v := .ref (Ea E 78)) (hL 50 rfl) rfl (by decide) fl_X10_80 rfl dX10_areSame_48 rfl ?_
      refine sim_bipush (49 : Int32) dX10_areSame_51 rfl rfl ?_
      refine sim_iload_n 2 dX10_areSame_53 rfl rfl ?_
      refine sim_imul dX10_areSame_54 rfl ?_
      refine sim_iload 4 dX10_areSame_55 rfl rfl ?_
      refine sim_iadd dX10_areSame_57 rfl ?_
      refine sim_iaload (k := 78) (hL 78 rfl) rfl rfl dX10_areSame_58 rfl ?_
      refine sim_icmp_ne 66 dX10_areSame_59 rfl rfl (fun _ => ?_) (fun _ => ?_)
      · refine sim_iconst (0 : Int32) dX10_areSame_66 rfl rfl ?_
        exact sim_sub [0, 1, 2, 4] rfl (sf_X10_areSame_67 hL hR hK74 v1 v2 v4 (0 : Int32) w)
      · refine sim_iconst (1 : Int32) dX10_areSame_62 rfl rfl ?_
        refine sim_goto (q := 67) dX10_areSame_63 rfl ?_
        exact sim_sub [0, 1, 2, 4] rfl (sf_X10_areSame_67 hL hR hK74 v1 v2 v4 (1 : Int32) w)
def l_X10_areSame_24 (K74 : Int32 → Int32 → Int32 → Wd → Option (Int32 × Wd)) (n : Nat) : Int32 → Int32 → Int32 → Int32 → Wd → Option (Int32 × Wd) := itr (fun _ _ _ _ _ => none) (fun R => b_X10_areSame_24 R K74) n
set_option maxRecDepth 20000 in
theorem sl_X10_areSame_24 {E : Ev} (hL : LM E) {K74 : Int32 → Int32 → Int32 → Wd → Option (Int32 × Wd)} (hK74 : ∀ (v1 : Int32) (v2 : Int32) (v3 : Int32) (w : Wd), Sim E m_X10_areSame rI 74 [(0, .ref (Ea E 50)), (1, .int v1), (2, .int v2), (3, .int v3)] [] w (K74 v1 v2 v3 w)) : ∀ (n : Nat) (v1 : Int32) (v2 : Int32) (v3 : Int32) (v4 : Int32) (w : Wd), Sim E m_X10_areSame rI 24 [(0, .ref (Ea E 50)), (1, .int v1), (2, .int v2), (3, .int v3), (4, .int v4)] [] w (l_X10_areSame_24 K74 n v1 v2 v3 v4 w) := by
  intro n
  induction n with
  | zero => intros; exact sim_none
  | succ n ih => intros; exact sb_X10_areSame_24 hL (R := l_X10_areSame_24 K74 n) ih hK74 _ _ _ _ _
def f_X10_areSame_120 (R : Int32 → Int32 → Int32 → Int32 → Wd → Option (Int32 × Wd)) (K127 : Int32 → Wd → Option (Int32 × Wd)) (v1 : Int32) (v2 : Int32) (v4 : Int32) (s0 : Int32) (w : Wd) : Option (Int32 × Wd) :=
  R v1 v2 s0 (v4 + (1 : Int32)) w
set_option maxRecDepth 20000 in
theorem sf_X10_areSame_120 {E : Ev} (hL : LM E) {R : Int32 → Int32 → Int32 → Int32 → Wd → Option (Int32 × Wd)} (hR : ∀ (v1 : Int32) (v2 : Int32) (v3 : Int32) (v4 : Int32) (w : Wd), Sim E m_X10_areSame rI 77 [(0, .ref (Ea E 50)), (1, .int v1), (2, .int v2), (3, .int v3), (4, .int v4)] [] w (R v1 v2 v3 v4 w)) {K127 : Int32 → Wd → Option (Int32 × Wd)} (hK127 : ∀ (v3 : Int32) (w : Wd), Sim E m_X10_areSame rI 127 [(3, .int v3)] [] w (K127 v3 w)) (v1 : Int32) (v2 : Int32) (v4 : Int32) (s0 : Int32) (w : Wd) : Sim E m_X10_areSame rI 120 [(0, .ref (Ea E 50)), (1, .int v1), (2, .int v2), (4, .int v4)] [.int s0] w (f_X10_areSame_120 R K127 v1 v2 v4 s0 w) := by
  unfold f_X10_areSame_120
  refine sim_istore_n [(3, .int s0), (0, .ref (Ea E 50)), (1, .int v1), (2, .int v2), (4, .int v4)] dX10_areSame_120 (Nat.le_of_ble_eq_true rfl) rfl rfl ?_
  refine sim_iinc (v4 + (1 : Int32)) 4 [(4, .int (v4 + (1 : Int32))), (3, .int s0), (0, .ref (Ea E 50)), (1, .int v1), (2, .int v2)] dX10_areSame_121 rfl rfl (Nat.le_of_ble_eq_true rfl) rfl rfl ?_
  refine sim_goto (q := 77) dX10_areSame_124 rfl ?_
  exact sim_sub [2, 3, 4, 1, 0] rfl (hR v1 v2 s0 (v4 + (1 : Int32)) w)
def b_X10_areSame_77 (R : Int32 → Int32 → Int32 → Int32 → Wd → Option (Int32 × Wd)) (K127 : Int32 → Wd → Option (Int32 × Wd)) (v1 : Int32) (v2 : Int32) (v3 : Int32) (v4 : Int32) (w : Wd) : Option (Int32 × Wd) :=
  if (16 : Int32) ≤ v4 then
  K127 v3 w
  else
  if v3 = (0 : Int32) then
  K127 v3 w
  else
  if inb (((16 : Int32) * v1) + v4) 9632 = true then
  if inb (((16 : Int32) * v2) + v4) 9632 = true then
  if (w.1 79 (Int32.toNatClampNeg (((16 : Int32) * v1) + v4))) = (w.1 79 (Int32.toNatClampNeg (((16 : Int32) * v2) + v4))) then
  f_X10_areSame_120 R K127 v1 v2 v4 (1 : Int32) w
  else
  f_X10_areSame_120 R K127 v1 v2 v4 (0 : Int32) w
  else none
  else none
set_option maxRecDepth 20000 in
theorem sb_X10_areSame_77 {E : Ev} (hL : LM E) {R : Int32 → Int32 → Int32 → Int32 → Wd → Option (Int32 × Wd)} (hR : ∀ (v1 : Int32) (v2 : Int32) (v3 : Int32) (v4 : Int32) (w : Wd), Sim E m_X10_areSame rI 77 [(0, .ref (Ea E 50)), (1, .int v1), (2, .int v2), (3, .int v3), (4, .int v4)] [] w (R v1 v2 v3 v4 w)) {K127 : Int32 → Wd → Option (Int32 × Wd)} (hK127 : ∀ (v3 : Int32) (w : Wd), Sim E m_X10_areSame rI 127 [(3, .int v3)] [] w (K127 v3 w)) (v1 : Int32) (v2 : Int32) (v3 : Int32) (v4 : Int32) (w : Wd) : Sim E m_X10_areSame rI 77 [(0, .ref (Ea E 50)), (1, .int v1), (2, .int v2), (3, .int v3), (4, .int v4)] [] w (b_X10_areSame_77 R K127 v1 v2 v3 v4 w) := by
  unfold b_X10_areSame_77
  refine sim_iload 4 dX10_areSame_77 rfl rfl ?_
  refine sim_bipush (16 : Int32) dX10_areSame_79 rfl rfl ?_
  refine sim_icmp_ge 127 dX10_areSame_81 rfl rfl (fun _ => ?_) (fun _ => ?_)
  · exact sim_sub [3] rfl (hK127 v3 w)
  · refine sim_iload_n 3 dX10_areSame_84 rfl rfl ?_
    refine sim_if_eq 127 dX10_areSame_85 rfl rfl (fun _ => ?_) (fun _ => ?_)
    · exact sim_sub [3] rfl (hK127 v3 w)
    · refine sim_aload_n 0 dX10_areSame_88 rfl rfl ?_
      refine sim_get (k := 50) (ci := 8) (j := 28) (v := .ref (Ea E 79)) (hL 50 rfl) rfl (by decide) fl_X10_83 rfl dX10_areSame_89 rfl ?_
      refine sim_bipush (16 : Int32) dX10_areSame_92 rfl rfl ?_
      refine sim_iload_n 1 dX10_areSame_94 rfl rfl ?_
      refine sim_imul dX10_areSame_95 rfl ?_
      refine sim_iload 4 dX10_areSame_96 rfl rfl ?_
      refine sim_iadd dX10_areSame_98 rfl ?_
      refine sim_iaload (k := 79) (hL 79 rfl) rfl rfl dX10_areSame_99 rfl ?_
      refine sim_aload_n 0 dX10_areSame_100 rfl rfl ?_
      refine sim_get (k := 50) (ci := 8) (j := 28) (v := .ref (Ea E 79)) (hL 50 rfl) rfl (by decide) fl_X10_83 rfl dX10_areSame_101 rfl ?_
      refine sim_bipush (16 : Int32) dX10_areSame_104 rfl rfl ?_
      refine sim_iload_n 2 dX10_areSame_106 rfl rfl ?_
      refine sim_imul dX10_areSame_107 rfl ?_
      refine sim_iload 4 dX10_areSame_108 rfl rfl ?_
      refine sim_iadd dX10_areSame_110 rfl ?_
      refine sim_iaload (k := 79) (hL 79 rfl) rfl rfl dX10_areSame_111 rfl ?_
      refine sim_icmp_ne 119 dX10_areSame_112 rfl rfl (fun _ => ?_) (fun _ => ?_)
      · refine sim_iconst (0 : Int32) dX10_areSame_119 rfl rfl ?_
        exact sim_sub [0, 1, 2, 4] rfl (sf_X10_areSame_120 hL hR hK127 v1 v2 v4 (0 : Int32) w)
      · refine sim_iconst (1 : Int32) dX10_areSame_115 rfl rfl ?_
        refine sim_goto (q := 120) dX10_areSame_116 rfl ?_
        exact sim_sub [0, 1, 2, 4] rfl (sf_X10_areSame_120 hL hR hK127 v1 v2 v4 (1 : Int32) w)
def l_X10_areSame_77 (K127 : Int32 → Wd → Option (Int32 × Wd)) (n : Nat) : Int32 → Int32 → Int32 → Int32 → Wd → Option (Int32 × Wd) := itr (fun _ _ _ _ _ => none) (fun R => b_X10_areSame_77 R K127) n
set_option maxRecDepth 20000 in
theorem sl_X10_areSame_77 {E : Ev} (hL : LM E) {K127 : Int32 → Wd → Option (Int32 × Wd)} (hK127 : ∀ (v3 : Int32) (w : Wd), Sim E m_X10_areSame rI 127 [(3, .int v3)] [] w (K127 v3 w)) : ∀ (n : Nat) (v1 : Int32) (v2 : Int32) (v3 : Int32) (v4 : Int32) (w : Wd), Sim E m_X10_areSame rI 77 [(0, .ref (Ea E 50)), (1, .int v1), (2, .int v2), (3, .int v3), (4, .int v4)] [] w (l_X10_areSame_77 K127 n v1 v2 v3 v4 w) := by
  intro n
  induction n with
  | zero => intros; exact sim_none
  | succ n ih => intros; exact sb_X10_areSame_77 hL (R := l_X10_areSame_77 K127 n) ih hK127 _ _ _ _ _
def f_X10_areSame_127 (v3 : Int32) (w : Wd) : Option (Int32 × Wd) :=
  if zb v3 = true then some (v3, w) else none
set_option maxRecDepth 20000 in
theorem sf_X10_areSame_127 {E : Ev} (hL : LM E) (v3 : Int32) (w : Wd) : Sim E m_X10_areSame rI 127 [(3, .int v3)] [] w (f_X10_areSame_127 v3 w) := by
  unfold f_X10_areSame_127
  refine sim_iload_n 0 dX10_areSame_127 rfl rfl ?_
  exact sim_zret rfl dX10_areSame_128
def f_X10_areSame_74 (v1 : Int32) (v2 : Int32) (v3 : Int32) (w : Wd) : Option (Int32 × Wd) :=
  l_X10_areSame_77 f_X10_areSame_127 FU v1 v2 v3 (0 : Int32) w
set_option maxRecDepth 20000 in
theorem sf_X10_areSame_74 {E : Ev} (hL : LM E) (v1 : Int32) (v2 : Int32) (v3 : Int32) (w : Wd) : Sim E m_X10_areSame rI 74 [(0, .ref (Ea E 50)), (1, .int v1), (2, .int v2), (3, .int v3)] [] w (f_X10_areSame_74 v1 v2 v3 w) := by
  unfold f_X10_areSame_74
  refine sim_iconst (0 : Int32) dX10_areSame_74 rfl rfl ?_
  refine sim_istore [(4, .int (0 : Int32)), (0, .ref (Ea E 50)), (1, .int v1), (2, .int v2), (3, .int v3)] dX10_areSame_75 (Nat.le_of_ble_eq_true rfl) rfl rfl ?_
  exact sim_sub [1, 2, 3, 4, 0] rfl (sl_X10_areSame_77 hL (sf_X10_areSame_127 hL) FU v1 v2 v3 (0 : Int32) w)
def f_X10_areSame_20 (v1 : Int32) (v2 : Int32) (s0 : Int32) (w : Wd) : Option (Int32 × Wd) :=
  l_X10_areSame_24 f_X10_areSame_74 FU v1 v2 s0 (0 : Int32) w
set_option maxRecDepth 20000 in
theorem sf_X10_areSame_20 {E : Ev} (hL : LM E) (v1 : Int32) (v2 : Int32) (s0 : Int32) (w : Wd) : Sim E m_X10_areSame rI 20 [(0, .ref (Ea E 50)), (1, .int v1), (2, .int v2)] [.int s0] w (f_X10_areSame_20 v1 v2 s0 w) := by
  unfold f_X10_areSame_20
  refine sim_istore_n [(3, .int s0), (0, .ref (Ea E 50)), (1, .int v1), (2, .int v2)] dX10_areSame_20 (Nat.le_of_ble_eq_true rfl) rfl rfl ?_
  refine sim_iconst (0 : Int32) dX10_areSame_21 rfl rfl ?_
  refine sim_istore [(4, .int (0 : Int32)), (3, .int s0), (0, .ref (Ea E 50)), (1, .int v1), (2, .int v2)] dX10_areSame_22 (Nat.le_of_ble_eq_true rfl) rfl rfl ?_
  exact sim_sub [2, 3, 4, 1, 0] rfl (sl_X10_areSame_24 hL (sf_X10_areSame_74 hL) FU v1 v2 s0 (0 : Int32) w)
def f_X10_areSame (v1 : Int32) (v2 : Int32) (w : Wd) : Option (Int32 × Wd) :=
  if inb v1 602 = true then
  if inb v2 602 = true then
  if (w.1 80 (Int32.toNatClampNeg v1)) = (w.1 80 (Int32.toNatClampNeg v2)) then
  f_X10_areSame_20 v1 v2 (1 : Int32) w
  else
  f_X10_areSame_20 v1 v2 (0 : Int32) w
  else none
  else none
set_option maxRecDepth 20000 in
theorem c_X10_areSame {E : Ev} (hL : LM E) (v1 : Int32) (v2 : Int32) (w : Wd) : Ct E m_X10_areSame yX10_areSame rI [.ref (Ea E 50), .int v1, .int v2] w (f_X10_areSame v1 v2 w) := by
  refine Ct.of (by decide) ⟨rfl, rfl⟩ (Nat.le_of_ble_eq_true rfl) ?_
  show Sim E m_X10_areSame rI 0 [(0, .ref (Ea E 50)), (1, .int v1), (2, .int v2)] [] w (f_X10_areSame v1 v2 w)
  unfold f_X10_areSame
  refine sim_aload_n 0 dX10_areSame_0 rfl rfl ?_
  refine sim_get (k := 50) (ci := 8) (j := 29) (v := .ref (Ea E 80)) (hL 50 rfl) rfl (by decide) fl_X10_86 rfl dX10_areSame_1 rfl ?_
  refine sim_iload_n 1 dX10_areSame_4 rfl rfl ?_
  refine sim_iaload (k := 80) (hL 80 rfl) rfl rfl dX10_areSame_5 rfl ?_
  refine sim_aload_n 0 dX10_areSame_6 rfl rfl ?_
  refine sim_get (k := 50) (ci := 8) (j := 29) (v := .ref (Ea E 80)) (hL 50 rfl) rfl (by decide) fl_X10_86 rfl dX10_areSame_7 rfl ?_
  refine sim_iload_n 2 dX10_areSame_10 rfl rfl ?_
  refine sim_iaload (k := 80) (hL 80 rfl) rfl rfl dX10_areSame_11 rfl ?_
  refine sim_icmp_ne 19 dX10_areSame_12 rfl rfl (fun _ => ?_) (fun _ => ?_)
  · refine sim_iconst (0 : Int32) dX10_areSame_19 rfl rfl ?_
    exact sim_sub [0, 1, 2] rfl (sf_X10_areSame_20 hL v1 v2 (0 : Int32) w)
  · refine sim_iconst (1 : Int32) dX10_areSame_15 rfl rfl ?_
    refine sim_goto (q := 20) dX10_areSame_16 rfl ?_
    exact sim_sub [0, 1, 2] rfl (sf_X10_areSame_20 hL v1 v2 (1 : Int32) w)
def f_X10_comes_39 (R : Int32 → Int32 → Int32 → Int32 → Wd → Option (Int32 × Wd)) (K47 : Int32 → Wd → Option (Int32 × Wd)) (v1 : Int32) (v2 : Int32) (v4 : Int32) (s0 : Int32) (s1 : Int32) (w : Wd) : Option (Int32 × Wd) :=
  lt (s0 + s1) fun x3 =>
  R v1 v2 x3 (v4 + (1 : Int32)) w
set_option maxRecDepth 20000 in
theorem sf_X10_comes_39 {E : Ev} (hL : LM E) {R : Int32 → Int32 → Int32 → Int32 → Wd → Option (Int32 × Wd)} (hR : ∀ (v1 : Int32) (v2 : Int32) (v3 : Int32) (v4 : Int32) (w : Wd), Sim E m_X10_comes rI 5 [(0, .ref (Ea E 50)), (1, .int v1), (2, .int v2), (3, .int v3), (4, .int v4)] [] w (R v1 v2 v3 v4 w)) {K47 : Int32 → Wd → Option (Int32 × Wd)} (hK47 : ∀ (v3 : Int32) (w : Wd), Sim E m_X10_comes rI 47 [(3, .int v3)] [] w (K47 v3 w)) (v1 : Int32) (v2 : Int32) (v4 : Int32) (s0 : Int32) (s1 : Int32) (w : Wd) : Sim E m_X10_comes rI 39 [(0, .ref (Ea E 50)), (1, .int v1), (2, .int v2), (4, .int v4)] [.int s1, .int s0] w (f_X10_comes_39 R K47 v1 v2 v4 s0 s1 w) := by
  unfold f_X10_comes_39
  refine sim_iadd dX10_comes_39 rfl ?_
  refine sim_lt (fun x3 => ?_)
  refine sim_istore_n [(3, .int x3), (0, .ref (Ea E 50)), (1, .int v1), (2, .int v2), (4, .int v4)] dX10_comes_40 (Nat.le_of_ble_eq_true rfl) rfl rfl ?_
  refine sim_iinc (v4 + (1 : Int32)) 4 [(4, .int (v4 + (1 : Int32))), (3, .int x3), (0, .ref (Ea E 50)), (1, .int v1), (2, .int v2)] dX10_comes_41 rfl rfl (Nat.le_of_ble_eq_true rfl) rfl rfl ?_
  refine sim_goto (q := 5) dX10_comes_44 rfl ?_
  exact sim_sub [2, 3, 4, 1, 0] rfl (hR v1 v2 x3 (v4 + (1 : Int32)) w)
def b_X10_comes_5 (R : Int32 → Int32 → Int32 → Int32 → Wd → Option (Int32 × Wd)) (K47 : Int32 → Wd → Option (Int32 × Wd)) (v1 : Int32) (v2 : Int32) (v3 : Int32) (v4 : Int32) (w : Wd) : Option (Int32 × Wd) :=
  if v2 < v4 then
  K47 v3 w
  else
  bd (f_X10_areSame (((301 : Int32) * v1) + v4) (((301 : Int32) * v1) + v2) w) fun x1 w2 =>
  if x1 = (0 : Int32) then
  f_X10_comes_39 R K47 v1 v2 v4 v3 (0 : Int32) w2
  else
  f_X10_comes_39 R K47 v1 v2 v4 v3 (1 : Int32) w2
set_option maxRecDepth 20000 in
theorem sb_X10_comes_5 {E : Ev} (hL : LM E) {R : Int32 → Int32 → Int32 → Int32 → Wd → Option (Int32 × Wd)} (hR : ∀ (v1 : Int32) (v2 : Int32) (v3 : Int32) (v4 : Int32) (w : Wd), Sim E m_X10_comes rI 5 [(0, .ref (Ea E 50)), (1, .int v1), (2, .int v2), (3, .int v3), (4, .int v4)] [] w (R v1 v2 v3 v4 w)) {K47 : Int32 → Wd → Option (Int32 × Wd)} (hK47 : ∀ (v3 : Int32) (w : Wd), Sim E m_X10_comes rI 47 [(3, .int v3)] [] w (K47 v3 w)) (v1 : Int32) (v2 : Int32) (v3 : Int32) (v4 : Int32) (w : Wd) : Sim E m_X10_comes rI 5 [(0, .ref (Ea E 50)), (1, .int v1), (2, .int v2), (3, .int v3), (4, .int v4)] [] w (b_X10_comes_5 R K47 v1 v2 v3 v4 w) := by
  unfold b_X10_comes_5
  refine sim_iload 4 dX10_comes_5 rfl rfl ?_
  refine sim_iload_n 2 dX10_comes_7 rfl rfl ?_
  refine sim_icmp_gt 47 dX10_comes_8 rfl rfl (fun _ => ?_) (fun _ => ?_)
  · exact sim_sub [3] rfl (hK47 v3 w)
  · refine sim_iload_n 3 dX10_comes_11 rfl rfl ?_
    refine sim_aload_n 0 dX10_comes_12 rfl rfl ?_
    refine sim_sipush (301 : Int32) dX10_comes_13 rfl rfl ?_
    refine sim_iload_n 1 dX10_comes_16 rfl rfl ?_
    refine sim_imul dX10_comes_17 rfl ?_
    refine sim_iload 4 dX10_comes_18 rfl rfl ?_
    refine sim_iadd dX10_comes_20 rfl ?_
    refine sim_sipush (301 : Int32) dX10_comes_21 rfl rfl ?_
    refine sim_iload_n 1 dX10_comes_24 rfl rfl ?_
    refine sim_imul dX10_comes_25 rfl ?_
    refine sim_iload_n 2 dX10_comes_26 rfl rfl ?_
    refine sim_iadd dX10_comes_27 rfl ?_
    refine sim_cVi (k := 50) (ci := 8) [.int (((301 : Int32) * v1) + v4), .int (((301 : Int32) * v1) + v2)] [.int v3] (c_X10_areSame hL (((301 : Int32) * v1) + v4) (((301 : Int32) * v1) + v2) w) (hL 50 rfl) rfl (by decide) rfl cb_X10_252 im_X10_areSame se_X10_areSame rfl rfl rfl (Nat.le_of_ble_eq_true rfl) dX10_comes_28 rfl (fun x1 w2 => ?_)
    refine sim_if_eq 38 dX10_comes_31 rfl rfl (fun _ => ?_) (fun _ => ?_)
    · refine sim_iconst (0 : Int32) dX10_comes_38 rfl rfl ?_
      exact sim_sub [0, 1, 2, 4] rfl (sf_X10_comes_39 hL hR hK47 v1 v2 v4 v3 (0 : Int32) w2)
    · refine sim_iconst (1 : Int32) dX10_comes_34 rfl rfl ?_
      refine sim_goto (q := 39) dX10_comes_35 rfl ?_
      exact sim_sub [0, 1, 2, 4] rfl (sf_X10_comes_39 hL hR hK47 v1 v2 v4 v3 (1 : Int32) w2)
def l_X10_comes_5 (K47 : Int32 → Wd → Option (Int32 × Wd)) (n : Nat) : Int32 → Int32 → Int32 → Int32 → Wd → Option (Int32 × Wd) := itr (fun _ _ _ _ _ => none) (fun R => b_X10_comes_5 R K47) n
set_option maxRecDepth 20000 in
theorem sl_X10_comes_5 {E : Ev} (hL : LM E) {K47 : Int32 → Wd → Option (Int32 × Wd)} (hK47 : ∀ (v3 : Int32) (w : Wd), Sim E m_X10_comes rI 47 [(3, .int v3)] [] w (K47 v3 w)) : ∀ (n : Nat) (v1 : Int32) (v2 : Int32) (v3 : Int32) (v4 : Int32) (w : Wd), Sim E m_X10_comes rI 5 [(0, .ref (Ea E 50)), (1, .int v1), (2, .int v2), (3, .int v3), (4, .int v4)] [] w (l_X10_comes_5 K47 n v1 v2 v3 v4 w) := by
  intro n
  induction n with
  | zero => intros; exact sim_none
  | succ n ih => intros; exact sb_X10_comes_5 hL (R := l_X10_comes_5 K47 n) ih hK47 _ _ _ _ _
def f_X10_comes_47 (v3 : Int32) (w : Wd) : Option (Int32 × Wd) :=
  some (v3, w)
set_option maxRecDepth 20000 in
theorem sf_X10_comes_47 {E : Ev} (hL : LM E) (v3 : Int32) (w : Wd) : Sim E m_X10_comes rI 47 [(3, .int v3)] [] w (f_X10_comes_47 v3 w) := by
  unfold f_X10_comes_47
  refine sim_iload_n 0 dX10_comes_47 rfl rfl ?_
  exact sim_iret rfl dX10_comes_48
def f_X10_comes (v1 : Int32) (v2 : Int32) (w : Wd) : Option (Int32 × Wd) :=
  l_X10_comes_5 f_X10_comes_47 FU v1 v2 (0 : Int32) (0 : Int32) w
set_option maxRecDepth 20000 in
theorem c_X10_comes {E : Ev} (hL : LM E) (v1 : Int32) (v2 : Int32) (w : Wd) : Ct E m_X10_comes yX10_comes rI [.ref (Ea E 50), .int v1, .int v2] w (f_X10_comes v1 v2 w) := by
  refine Ct.of (by decide) ⟨rfl, rfl⟩ (Nat.le_of_ble_eq_true rfl) ?_
  show Sim E m_X10_comes rI 0 [(0, .ref (Ea E 50)), (1, .int v1), (2, .int v2)] [] w (f_X10_comes v1 v2 w)
  unfold f_X10_comes
  refine sim_iconst (0 : Int32) dX10_comes_0 rfl rfl ?_
  refine sim_istore_n [(3, .int (0 : Int32)), (0, .ref (Ea E 50)), (1, .int v1), (2, .int v2)] dX10_comes_1 (Nat.le_of_ble_eq_true rfl) rfl rfl ?_
  refine sim_iconst (0 : Int32) dX10_comes_2 rfl rfl ?_
  refine sim_istore [(4, .int (0 : Int32)), (3, .int (0 : Int32)), (0, .ref (Ea E 50)), (1, .int v1), (2, .int v2)] dX10_comes_3 (Nat.le_of_ble_eq_true rfl) rfl rfl ?_
  exact sim_sub [2, 3, 4, 1, 0] rfl (sl_X10_comes_5 hL (sf_X10_comes_47 hL) FU v1 v2 (0 : Int32) (0 : Int32) w)
def b_X10_firstOf_2 (R : Int32 → Int32 → Int32 → Wd → Option (Int32 × Wd)) (K29 : Int32 → Wd → Option (Int32 × Wd)) (v1 : Int32) (v2 : Int32) (v3 : Int32) (w : Wd) : Option (Int32 × Wd) :=
  bd (f_X10_areSame (((301 : Int32) * v1) + v3) (((301 : Int32) * v1) + v2) w) fun x1 w2 =>
  if x1 = (0 : Int32) then
  R v1 v2 (v3 + (1 : Int32)) w2
  else
  K29 v3 w2
set_option maxRecDepth 20000 in
theorem sb_X10_firstOf_2 {E : Ev} (hL : LM E) {R : Int32 → Int32 → Int32 → Wd → Option (Int32 × Wd)} (hR : ∀ (v1 : Int32) (v2 : Int32) (v3 : Int32) (w : Wd), Sim E m_X10_firstOf rI 2 [(0, .ref (Ea E 50)), (1, .int v1), (2, .int v2), (3, .int v3)] [] w (R v1 v2 v3 w)) {K29 : Int32 → Wd → Option (Int32 × Wd)} (hK29 : ∀ (v3 : Int32) (w : Wd), Sim E m_X10_firstOf rI 29 [(3, .int v3)] [] w (K29 v3 w)) (v1 : Int32) (v2 : Int32) (v3 : Int32) (w : Wd) : Sim E m_X10_firstOf rI 2 [(0, .ref (Ea E 50)), (1, .int v1), (2, .int v2), (3, .int v3)] [] w (b_X10_firstOf_2 R K29 v1 v2 v3 w) := by
  unfold b_X10_firstOf_2
  refine sim_aload_n 0 dX10_firstOf_2 rfl rfl ?_
  refine sim_sipush (301 : Int32) dX10_firstOf_3 rfl rfl ?_
  refine sim_iload_n 1 dX10_firstOf_6 rfl rfl ?_
  refine sim_imul dX10_firstOf_7 rfl ?_
  refine sim_iload_n 3 dX10_firstOf_8 rfl rfl ?_
  refine sim_iadd dX10_firstOf_9 rfl ?_
  refine sim_sipush (301 : Int32) dX10_firstOf_10 rfl rfl ?_
  refine sim_iload_n 1 dX10_firstOf_13 rfl rfl ?_
  refine sim_imul dX10_firstOf_14 rfl ?_
  refine sim_iload_n 2 dX10_firstOf_15 rfl rfl ?_
  refine sim_iadd dX10_firstOf_16 rfl ?_
  refine sim_cVi (k := 50) (ci := 8) [.int (((301 : Int32) * v1) + v3), .int (((301 : Int32) * v1) + v2)] [] (c_X10_areSame hL (((301 : Int32) * v1) + v3) (((301 : Int32) * v1) + v2) w) (hL 50 rfl) rfl (by decide) rfl cb_X10_252 im_X10_areSame se_X10_areSame rfl rfl rfl (Nat.le_of_ble_eq_true rfl) dX10_firstOf_17 rfl (fun x1 w2 => ?_)
  refine sim_if_ne 29 dX10_firstOf_20 rfl rfl (fun _ => ?_) (fun _ => ?_)
  · exact sim_sub [3] rfl (hK29 v3 w2)
  · refine sim_iinc (v3 + (1 : Int32)) 3 [(3, .int (v3 + (1 : Int32))), (0, .ref (Ea E 50)), (1, .int v1), (2, .int v2)] dX10_firstOf_23 rfl rfl (Nat.le_of_ble_eq_true rfl) rfl rfl ?_
    refine sim_goto (q := 2) dX10_firstOf_26 rfl ?_
    exact sim_sub [1, 2, 3, 0] rfl (hR v1 v2 (v3 + (1 : Int32)) w2)
def l_X10_firstOf_2 (K29 : Int32 → Wd → Option (Int32 × Wd)) (n : Nat) : Int32 → Int32 → Int32 → Wd → Option (Int32 × Wd) := itr (fun _ _ _ _ => none) (fun R => b_X10_firstOf_2 R K29) n
set_option maxRecDepth 20000 in
theorem sl_X10_firstOf_2 {E : Ev} (hL : LM E) {K29 : Int32 → Wd → Option (Int32 × Wd)} (hK29 : ∀ (v3 : Int32) (w : Wd), Sim E m_X10_firstOf rI 29 [(3, .int v3)] [] w (K29 v3 w)) : ∀ (n : Nat) (v1 : Int32) (v2 : Int32) (v3 : Int32) (w : Wd), Sim E m_X10_firstOf rI 2 [(0, .ref (Ea E 50)), (1, .int v1), (2, .int v2), (3, .int v3)] [] w (l_X10_firstOf_2 K29 n v1 v2 v3 w) := by
  intro n
  induction n with
  | zero => intros; exact sim_none
  | succ n ih => intros; exact sb_X10_firstOf_2 hL (R := l_X10_firstOf_2 K29 n) ih hK29 _ _ _ _
def f_X10_firstOf_29 (v3 : Int32) (w : Wd) : Option (Int32 × Wd) :=
  some (v3, w)
set_option maxRecDepth 20000 in
theorem sf_X10_firstOf_29 {E : Ev} (hL : LM E) (v3 : Int32) (w : Wd) : Sim E m_X10_firstOf rI 29 [(3, .int v3)] [] w (f_X10_firstOf_29 v3 w) := by
  unfold f_X10_firstOf_29
  refine sim_iload_n 0 dX10_firstOf_29 rfl rfl ?_
  exact sim_iret rfl dX10_firstOf_30
def f_X10_firstOf (v1 : Int32) (v2 : Int32) (w : Wd) : Option (Int32 × Wd) :=
  l_X10_firstOf_2 f_X10_firstOf_29 FU v1 v2 (0 : Int32) w
set_option maxRecDepth 20000 in
theorem c_X10_firstOf {E : Ev} (hL : LM E) (v1 : Int32) (v2 : Int32) (w : Wd) : Ct E m_X10_firstOf yX10_firstOf rI [.ref (Ea E 50), .int v1, .int v2] w (f_X10_firstOf v1 v2 w) := by
  refine Ct.of (by decide) ⟨rfl, rfl⟩ (Nat.le_of_ble_eq_true rfl) ?_
  show Sim E m_X10_firstOf rI 0 [(0, .ref (Ea E 50)), (1, .int v1), (2, .int v2)] [] w (f_X10_firstOf v1 v2 w)
  unfold f_X10_firstOf
  refine sim_iconst (0 : Int32) dX10_firstOf_0 rfl rfl ?_
  refine sim_istore_n [(3, .int (0 : Int32)), (0, .ref (Ea E 50)), (1, .int v1), (2, .int v2)] dX10_firstOf_1 (Nat.le_of_ble_eq_true rfl) rfl rfl ?_
  exact sim_sub [1, 2, 3, 0] rfl (sl_X10_firstOf_2 hL (sf_X10_firstOf_29 hL) FU v1 v2 (0 : Int32) w)
def f_X10_chased_56 (R : Int32 → Int32 → Int32 → Int32 → Int32 → Wd → Option (Int32 × Wd)) (K64 : Int32 → Wd → Option (Int32 × Wd)) (v1 : Int32) (v3 : Int32) (v4 : Int32) (v6 : Int32) (s0 : Int32) (w : Wd) : Option (Int32 × Wd) :=
  R v1 v3 v4 s0 (v6 + (1 : Int32)) w
set_option maxRecDepth 20000 in
theorem sf_X10_chased_56 {E : Ev} (hL : LM E) {R : Int32 → Int32 → Int32 → Int32 → Int32 → Wd → Option (Int32 × Wd)} (hR : ∀ (v1 : Int32) (v3 : Int32) (v4 : Int32) (v5 : Int32) (v6 : Int32) (w : Wd), Sim E m_X10_chased rI 6 [(0, .ref (Ea E 50)), (1, .int v1), (3, .int v3), (4, .int v4), (5, .int v5), (6, .int v6)] [] w (R v1 v3 v4 v5 v6 w)) {K64 : Int32 → Wd → Option (Int32 × Wd)} (hK64 : ∀ (v5 : Int32) (w : Wd), Sim E m_X10_chased rI 64 [(5, .int v5)] [] w (K64 v5 w)) (v1 : Int32) (v3 : Int32) (v4 : Int32) (v6 : Int32) (s0 : Int32) (w : Wd) : Sim E m_X10_chased rI 56 [(0, .ref (Ea E 50)), (1, .int v1), (3, .int v3), (4, .int v4), (6, .int v6)] [.int s0] w (f_X10_chased_56 R K64 v1 v3 v4 v6 s0 w) := by
  unfold f_X10_chased_56
  refine sim_istore [(5, .int s0), (0, .ref (Ea E 50)), (1, .int v1), (3, .int v3), (4, .int v4), (6, .int v6)] dX10_chased_56 (Nat.le_of_ble_eq_true rfl) rfl rfl ?_
  refine sim_iinc (v6 + (1 : Int32)) 5 [(6, .int (v6 + (1 : Int32))), (5, .int s0), (0, .ref (Ea E 50)), (1, .int v1), (3, .int v3), (4, .int v4)] dX10_chased_58 rfl rfl (Nat.le_of_ble_eq_true rfl) rfl rfl ?_
  refine sim_goto (q := 6) dX10_chased_61 rfl ?_
  exact sim_sub [2, 3, 4, 5, 1, 0] rfl (hR v1 v3 v4 s0 (v6 + (1 : Int32)) w)
def f_X10_chased_55 (R : Int32 → Int32 → Int32 → Int32 → Int32 → Wd → Option (Int32 × Wd)) (K64 : Int32 → Wd → Option (Int32 × Wd)) (v1 : Int32) (v3 : Int32) (v4 : Int32) (v6 : Int32) (w : Wd) : Option (Int32 × Wd) :=
  f_X10_chased_56 R K64 v1 v3 v4 v6 (0 : Int32) w
set_option maxRecDepth 20000 in
theorem sf_X10_chased_55 {E : Ev} (hL : LM E) {R : Int32 → Int32 → Int32 → Int32 → Int32 → Wd → Option (Int32 × Wd)} (hR : ∀ (v1 : Int32) (v3 : Int32) (v4 : Int32) (v5 : Int32) (v6 : Int32) (w : Wd), Sim E m_X10_chased rI 6 [(0, .ref (Ea E 50)), (1, .int v1), (3, .int v3), (4, .int v4), (5, .int v5), (6, .int v6)] [] w (R v1 v3 v4 v5 v6 w)) {K64 : Int32 → Wd → Option (Int32 × Wd)} (hK64 : ∀ (v5 : Int32) (w : Wd), Sim E m_X10_chased rI 64 [(5, .int v5)] [] w (K64 v5 w)) (v1 : Int32) (v3 : Int32) (v4 : Int32) (v6 : Int32) (w : Wd) : Sim E m_X10_chased rI 55 [(0, .ref (Ea E 50)), (1, .int v1), (3, .int v3), (4, .int v4), (6, .int v6)] [] w (f_X10_chased_55 R K64 v1 v3 v4 v6 w) := by
  unfold f_X10_chased_55
  refine sim_iconst (0 : Int32) dX10_chased_55 rfl rfl ?_
  exact sim_sub [0, 1, 2, 3, 4] rfl (sf_X10_chased_56 hL hR hK64 v1 v3 v4 v6 (0 : Int32) w)
def f_X10_chased_51 (R : Int32 → Int32 → Int32 → Int32 → Int32 → Wd → Option (Int32 × Wd)) (K64 : Int32 → Wd → Option (Int32 × Wd)) (v1 : Int32) (v3 : Int32) (v4 : Int32) (v6 : Int32) (w : Wd) : Option (Int32 × Wd) :=
  f_X10_chased_56 R K64 v1 v3 v4 v6 (1 : Int32) w
set_option maxRecDepth 20000 in
theorem sf_X10_chased_51 {E : Ev} (hL : LM E) {R : Int32 → Int32 → Int32 → Int32 → Int32 → Wd → Option (Int32 × Wd)} (hR : ∀ (v1 : Int32) (v3 : Int32) (v4 : Int32) (v5 : Int32) (v6 : Int32) (w : Wd), Sim E m_X10_chased rI 6 [(0, .ref (Ea E 50)), (1, .int v1), (3, .int v3), (4, .int v4), (5, .int v5), (6, .int v6)] [] w (R v1 v3 v4 v5 v6 w)) {K64 : Int32 → Wd → Option (Int32 × Wd)} (hK64 : ∀ (v5 : Int32) (w : Wd), Sim E m_X10_chased rI 64 [(5, .int v5)] [] w (K64 v5 w)) (v1 : Int32) (v3 : Int32) (v4 : Int32) (v6 : Int32) (w : Wd) : Sim E m_X10_chased rI 51 [(0, .ref (Ea E 50)), (1, .int v1), (3, .int v3), (4, .int v4), (6, .int v6)] [] w (f_X10_chased_51 R K64 v1 v3 v4 v6 w) := by
  unfold f_X10_chased_51
  refine sim_iconst (1 : Int32) dX10_chased_51 rfl rfl ?_
  refine sim_goto (q := 56) dX10_chased_52 rfl ?_
  exact sim_sub [0, 1, 2, 3, 4] rfl (sf_X10_chased_56 hL hR hK64 v1 v3 v4 v6 (1 : Int32) w)
def b_X10_chased_6 (R : Int32 → Int32 → Int32 → Int32 → Int32 → Wd → Option (Int32 × Wd)) (K64 : Int32 → Wd → Option (Int32 × Wd)) (v1 : Int32) (v3 : Int32) (v4 : Int32) (v5 : Int32) (v6 : Int32) (w : Wd) : Option (Int32 × Wd) :=
  if v3 ≤ v6 then
  K64 v5 w
  else
  if v5 = (0 : Int32) then
  f_X10_chased_55 R K64 v1 v3 v4 v6 w
  else
  if inb (((301 : Int32) * v1) + v6) 602 = true then
  if (w.1 80 (Int32.toNatClampNeg (((301 : Int32) * v1) + v6))) = v4 then
  if inb (((300 : Int32) * v1) + v6) 600 = true then
  if (w.1 85 (Int32.toNatClampNeg (((300 : Int32) * v1) + v6))) = (0 : Int32) then
  f_X10_chased_55 R K64 v1 v3 v4 v6 w
  else
  f_X10_chased_51 R K64 v1 v3 v4 v6 w
  else none
  else
  f_X10_chased_51 R K64 v1 v3 v4 v6 w
  else none
set_option maxRecDepth 20000 in
theorem sb_X10_chased_6 {E : Ev} (hL : LM E) {R : Int32 → Int32 → Int32 → Int32 → Int32 → Wd → Option (Int32 × Wd)} (hR : ∀ (v1 : Int32) (v3 : Int32) (v4 : Int32) (v5 : Int32) (v6 : Int32) (w : Wd), Sim E m_X10_chased rI 6 [(0, .ref (Ea E 50)), (1, .int v1), (3, .int v3), (4, .int v4), (5, .int v5), (6, .int v6)] [] w (R v1 v3 v4 v5 v6 w)) {K64 : Int32 → Wd → Option (Int32 × Wd)} (hK64 : ∀ (v5 : Int32) (w : Wd), Sim E m_X10_chased rI 64 [(5, .int v5)] [] w (K64 v5 w)) (v1 : Int32) (v3 : Int32) (v4 : Int32) (v5 : Int32) (v6 : Int32) (w : Wd) : Sim E m_X10_chased rI 6 [(0, .ref (Ea E 50)), (1, .int v1), (3, .int v3), (4, .int v4), (5, .int v5), (6, .int v6)] [] w (b_X10_chased_6 R K64 v1 v3 v4 v5 v6 w) := by
  unfold b_X10_chased_6
  refine sim_iload 5 dX10_chased_6 rfl rfl ?_
  refine sim_iload_n 2 dX10_chased_8 rfl rfl ?_
  refine sim_icmp_ge 64 dX10_chased_9 rfl rfl (fun _ => ?_) (fun _ => ?_)
  · exact sim_sub [4] rfl (hK64 v5 w)
  · refine sim_iload 4 dX10_chased_12 rfl rfl ?_
    refine sim_if_eq 55 dX10_chased_14 rfl rfl (fun _ => ?_) (fun _ => ?_)
    · exact sim_sub [0, 1, 2, 3, 5] rfl (sf_X10_chased_55 hL hR hK64 v1 v3 v4 v6 w)
    · refine sim_aload_n 0 dX10_chased_17 rfl rfl ?_
      refine sim_get (k := 50) (ci := 8) (j := 29) (v := .ref (Ea E 80)) (hL 50 rfl) rfl (by decide) fl_X10_86 rfl dX10_chased_18 rfl ?_
      refine sim_sipush (301 : Int32) dX10_chased_21 rfl rfl ?_
      refine sim_iload_n 1 dX10_chased_24 rfl rfl ?_
      refine sim_imul dX10_chased_25 rfl ?_
      refine sim_iload 5 dX10_chased_26 rfl rfl ?_
      refine sim_iadd dX10_chased_28 rfl ?_
      refine sim_iaload (k := 80) (hL 80 rfl) rfl rfl dX10_chased_29 rfl ?_
      refine sim_iload 3 dX10_chased_30 rfl rfl ?_
      refine sim_icmp_ne 51 dX10_chased_32 rfl rfl (fun _ => ?_) (fun _ => ?_)
      · exact sim_sub [0, 1, 2, 3, 5] rfl (sf_X10_chased_51 hL hR hK64 v1 v3 v4 v6 w)
      · refine sim_aload_n 0 dX10_chased_35 rfl rfl ?_
        refine sim_get (k := 50) (ci := 8) (j := 34) (v := .ref (Ea E 85)) (hL 50 rfl) rfl (by decide) fl_X10_101 rfl dX10_chased_36 rfl ?_
        refine sim_sipush (300 : Int32) dX10_chased_39 rfl rfl ?_
        refine sim_iload_n 1 dX10_chased_42 rfl rfl ?_
        refine sim_imul dX10_chased_43 rfl ?_
        refine sim_iload 5 dX10_chased_44 rfl rfl ?_
        refine sim_iadd dX10_chased_46 rfl ?_
        refine sim_baload (k := 85) (hL 85 rfl) rfl rfl dX10_chased_47 rfl ?_
        refine sim_if_eq 55 dX10_chased_48 rfl rfl (fun _ => ?_) (fun _ => ?_)
        · exact sim_sub [0, 1, 2, 3, 5] rfl (sf_X10_chased_55 hL hR hK64 v1 v3 v4 v6 w)
        · exact sim_sub [0, 1, 2, 3, 5] rfl (sf_X10_chased_51 hL hR hK64 v1 v3 v4 v6 w)
def l_X10_chased_6 (K64 : Int32 → Wd → Option (Int32 × Wd)) (n : Nat) : Int32 → Int32 → Int32 → Int32 → Int32 → Wd → Option (Int32 × Wd) := itr (fun _ _ _ _ _ _ => none) (fun R => b_X10_chased_6 R K64) n
set_option maxRecDepth 20000 in
theorem sl_X10_chased_6 {E : Ev} (hL : LM E) {K64 : Int32 → Wd → Option (Int32 × Wd)} (hK64 : ∀ (v5 : Int32) (w : Wd), Sim E m_X10_chased rI 64 [(5, .int v5)] [] w (K64 v5 w)) : ∀ (n : Nat) (v1 : Int32) (v3 : Int32) (v4 : Int32) (v5 : Int32) (v6 : Int32) (w : Wd), Sim E m_X10_chased rI 6 [(0, .ref (Ea E 50)), (1, .int v1), (3, .int v3), (4, .int v4), (5, .int v5), (6, .int v6)] [] w (l_X10_chased_6 K64 n v1 v3 v4 v5 v6 w) := by
  intro n
  induction n with
  | zero => intros; exact sim_none
  | succ n ih => intros; exact sb_X10_chased_6 hL (R := l_X10_chased_6 K64 n) ih hK64 _ _ _ _ _ _
def f_X10_chased_64 (v5 : Int32) (w : Wd) : Option (Int32 × Wd) :=
  if zb v5 = true then some (v5, w) else none
set_option maxRecDepth 20000 in
theorem sf_X10_chased_64 {E : Ev} (hL : LM E) (v5 : Int32) (w : Wd) : Sim E m_X10_chased rI 64 [(5, .int v5)] [] w (f_X10_chased_64 v5 w) := by
  unfold f_X10_chased_64
  refine sim_iload 0 dX10_chased_64 rfl rfl ?_
  exact sim_zret rfl dX10_chased_66
def f_X10_chased (v1 : Int32) (v2 : Int32) (v3 : Int32) (v4 : Int32) (w : Wd) : Option (Int32 × Wd) :=
  l_X10_chased_6 f_X10_chased_64 FU v1 v3 v4 (1 : Int32) v2 w
set_option maxRecDepth 20000 in
theorem c_X10_chased {E : Ev} (hL : LM E) (v1 : Int32) (v2 : Int32) (v3 : Int32) (v4 : Int32) (w : Wd) : Ct E m_X10_chased yX10_chased rI [.ref (Ea E 50), .int v1, .int v2, .int v3, .int v4] w (f_X10_chased v1 v2 v3 v4 w) := by
  refine Ct.of (by decide) ⟨rfl, rfl⟩ (Nat.le_of_ble_eq_true rfl) ?_
  show Sim E m_X10_chased rI 0 [(0, .ref (Ea E 50)), (1, .int v1), (2, .int v2), (3, .int v3), (4, .int v4)] [] w (f_X10_chased v1 v2 v3 v4 w)
  unfold f_X10_chased
  refine sim_iconst (1 : Int32) dX10_chased_0 rfl rfl ?_
  refine sim_istore [(5, .int (1 : Int32)), (0, .ref (Ea E 50)), (1, .int v1), (2, .int v2), (3, .int v3), (4, .int v4)] dX10_chased_1 (Nat.le_of_ble_eq_true rfl) rfl rfl ?_
  refine sim_iload_n 3 dX10_chased_3 rfl rfl ?_
  refine sim_istore [(6, .int v2), (5, .int (1 : Int32)), (0, .ref (Ea E 50)), (1, .int v1), (2, .int v2), (3, .int v3), (4, .int v4)] dX10_chased_4 (Nat.le_of_ble_eq_true rfl) rfl rfl ?_
  exact sim_sub [2, 3, 5, 6, 1, 0] rfl (sl_X10_chased_6 hL (sf_X10_chased_64 hL) FU v1 v3 v4 (1 : Int32) v2 w)
def f_X10_stateOf_66 (s0 : Int32) (w : Wd) : Option (Int32 × Wd) :=
  some (s0, w)
set_option maxRecDepth 20000 in
theorem sf_X10_stateOf_66 {E : Ev} (hL : LM E) (s0 : Int32) (w : Wd) : Sim E m_X10_stateOf rI 66 [] [.int s0] w (f_X10_stateOf_66 s0 w) := by
  unfold f_X10_stateOf_66
  exact sim_iret rfl dX10_stateOf_66
def f_X10_stateOf (v1 : Int32) (v2 : Int32) (w : Wd) : Option (Int32 × Wd) :=
  bd (f_X10_findMoves (0 : Int32) w) fun _ w1 =>
  if inb (0 : Int32) 16 = true then
  if (w1.1 63 (Int32.toNatClampNeg (0 : Int32))) = (0 : Int32) then
  some ((1 : Int32), w1)
  else
  bd (f_X10_comes v1 v2 w1) fun x2 w3 =>
  if (4 : Int32) ≤ x2 then
  bd (f_X10_firstOf v1 v2 w3) fun x4 w5 =>
  bd (f_X10_chased v1 x4 v2 (0 : Int32) w5) fun x6 w7 =>
  if x6 = (0 : Int32) then
  bd (f_X10_chased v1 x4 v2 (1 : Int32) w7) fun x8 w9 =>
  if x8 = (0 : Int32) then
  f_X10_stateOf_66 (2 : Int32) w9
  else
  f_X10_stateOf_66 (4 : Int32) w9
  else
  f_X10_stateOf_66 (3 : Int32) w7
  else
  some ((0 : Int32), w3)
  else none
set_option maxRecDepth 20000 in
theorem c_X10_stateOf {E : Ev} (hL : LM E) (v1 : Int32) (v2 : Int32) (w : Wd) : Ct E m_X10_stateOf yX10_stateOf rI [.ref (Ea E 50), .int v1, .int v2] w (f_X10_stateOf v1 v2 w) := by
  refine Ct.of (by decide) ⟨rfl, rfl⟩ (Nat.le_of_ble_eq_true rfl) ?_
  show Sim E m_X10_stateOf rI 0 [(0, .ref (Ea E 50)), (1, .int v1), (2, .int v2)] [] w (f_X10_stateOf v1 v2 w)
  unfold f_X10_stateOf
  refine sim_aload_n 0 dX10_stateOf_0 rfl rfl ?_
  refine sim_iconst (0 : Int32) dX10_stateOf_1 rfl rfl ?_
  refine sim_cVv (k := 50) (ci := 8) [.int (0 : Int32)] [] (c_X10_findMoves hL (0 : Int32) w) (hL 50 rfl) rfl (by decide) rfl cb_X10_255 im_X10_findMoves se_X10_findMoves rfl rfl rfl (Nat.le_of_ble_eq_true rfl) dX10_stateOf_2 rfl (fun _ w1 => ?_)
  refine sim_aload_n 0 dX10_stateOf_5 rfl rfl ?_
  refine sim_get (k := 50) (ci := 8) (j := 12) (v := .ref (Ea E 63)) (hL 50 rfl) rfl (by decide) fl_X10_40 rfl dX10_stateOf_6 rfl ?_
  refine sim_iconst (0 : Int32) dX10_stateOf_9 rfl rfl ?_
  refine sim_iaload (k := 63) (hL 63 rfl) rfl rfl dX10_stateOf_10 rfl ?_
  refine sim_if_ne 16 dX10_stateOf_11 rfl rfl (fun _ => ?_) (fun _ => ?_)
  · refine sim_aload_n 0 dX10_stateOf_16 rfl rfl ?_
    refine sim_iload_n 1 dX10_stateOf_17 rfl rfl ?_
    refine sim_iload_n 2 dX10_stateOf_18 rfl rfl ?_
    refine sim_cVi (k := 50) (ci := 8) [.int v1, .int v2] [] (c_X10_comes hL v1 v2 w1) (hL 50 rfl) rfl (by decide) rfl cb_X10_258 im_X10_comes se_X10_comes rfl rfl rfl (Nat.le_of_ble_eq_true rfl) dX10_stateOf_19 rfl (fun x2 w3 => ?_)
    refine sim_iconst (4 : Int32) dX10_stateOf_22 rfl rfl ?_
    refine sim_icmp_ge 28 dX10_stateOf_23 rfl rfl (fun _ => ?_) (fun _ => ?_)
    · refine sim_aload_n 0 dX10_stateOf_28 rfl rfl ?_
      refine sim_iload_n 1 dX10_stateOf_29 rfl rfl ?_
      refine sim_iload_n 2 dX10_stateOf_30 rfl rfl ?_
      refine sim_cVi (k := 50) (ci := 8) [.int v1, .int v2] [] (c_X10_firstOf hL v1 v2 w3) (hL 50 rfl) rfl (by decide) rfl cb_X10_262 im_X10_firstOf se_X10_firstOf rfl rfl rfl (Nat.le_of_ble_eq_true rfl) dX10_stateOf_31 rfl (fun x4 w5 => ?_)
      refine sim_istore_n [(3, .int x4), (0, .ref (Ea E 50)), (1, .int v1), (2, .int v2)] dX10_stateOf_34 (Nat.le_of_ble_eq_true rfl) rfl rfl ?_
      refine sim_aload_n 1 dX10_stateOf_35 rfl rfl ?_
      refine sim_iload_n 2 dX10_stateOf_36 rfl rfl ?_
      refine sim_iload_n 0 dX10_stateOf_37 rfl rfl ?_
      refine sim_iload_n 3 dX10_stateOf_38 rfl rfl ?_
      refine sim_iconst (0 : Int32) dX10_stateOf_39 rfl rfl ?_
      refine sim_cVi (k := 50) (ci := 8) [.int v1, .int x4, .int v2, .int (0 : Int32)] [] (c_X10_chased hL v1 x4 v2 (0 : Int32) w5) (hL 50 rfl) rfl (by decide) rfl cb_X10_265 im_X10_chased se_X10_chased rfl rfl rfl (Nat.le_of_ble_eq_true rfl) dX10_stateOf_40 rfl (fun x6 w7 => ?_)
      refine sim_if_eq 50 dX10_stateOf_43 rfl rfl (fun _ => ?_) (fun _ => ?_)
      · refine sim_aload_n 1 dX10_stateOf_50 rfl rfl ?_
        refine sim_iload_n 2 dX10_stateOf_51 rfl rfl ?_
        refine sim_iload_n 0 dX10_stateOf_52 rfl rfl ?_
        refine sim_iload_n 3 dX10_stateOf_53 rfl rfl ?_
        refine sim_iconst (1 : Int32) dX10_stateOf_54 rfl rfl ?_
        refine sim_cVi (k := 50) (ci := 8) [.int v1, .int x4, .int v2, .int (1 : Int32)] [] (c_X10_chased hL v1 x4 v2 (1 : Int32) w7) (hL 50 rfl) rfl (by decide) rfl cb_X10_265 im_X10_chased se_X10_chased rfl rfl rfl (Nat.le_of_ble_eq_true rfl) dX10_stateOf_55 rfl (fun x8 w9 => ?_)
        refine sim_if_eq 65 dX10_stateOf_58 rfl rfl (fun _ => ?_) (fun _ => ?_)
        · refine sim_iconst (2 : Int32) dX10_stateOf_65 rfl rfl ?_
          exact sim_sub [] rfl (sf_X10_stateOf_66 hL (2 : Int32) w9)
        · refine sim_iconst (4 : Int32) dX10_stateOf_61 rfl rfl ?_
          refine sim_goto (q := 66) dX10_stateOf_62 rfl ?_
          exact sim_sub [] rfl (sf_X10_stateOf_66 hL (4 : Int32) w9)
      · refine sim_iconst (3 : Int32) dX10_stateOf_46 rfl rfl ?_
        refine sim_goto (q := 66) dX10_stateOf_47 rfl ?_
        exact sim_sub [] rfl (sf_X10_stateOf_66 hL (3 : Int32) w7)
    · refine sim_iconst (0 : Int32) dX10_stateOf_26 rfl rfl ?_
      exact sim_iret rfl dX10_stateOf_27
  · refine sim_iconst (1 : Int32) dX10_stateOf_14 rfl rfl ?_
    exact sim_iret rfl dX10_stateOf_15
