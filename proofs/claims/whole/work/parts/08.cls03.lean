def f_X1_faultOfItem_41 (N : Nat) (s0 : Int32) (w : Wd) : Option (Int32 × Wd) :=
  some (s0, w)
set_option maxRecDepth 20000 in
theorem sf_X1_faultOfItem_41 {E : Ev} (hL : LX E) (s0 : Int32) (w : Wd) : Sim E m_X1_faultOfItem rI 41 [] [.int s0] w (f_X1_faultOfItem_41 (En E) s0 w) := by
  unfold f_X1_faultOfItem_41
  exact sim_iret rfl dX1_faultOfItem_41
def f_X1_faultOfItem_36 (N : Nat) (w : Wd) : Option (Int32 × Wd) :=
  f_X1_faultOfItem_41 N (2 : Int32) w
set_option maxRecDepth 20000 in
theorem sf_X1_faultOfItem_36 {E : Ev} (hL : LX E) (w : Wd) : Sim E m_X1_faultOfItem rI 36 [] [] w (f_X1_faultOfItem_36 (En E) w) := by
  unfold f_X1_faultOfItem_36
  refine sim_iconst (2 : Int32) dX1_faultOfItem_36 rfl rfl ?_
  refine sim_goto (q := 41) dX1_faultOfItem_37 rfl ?_
  exact sim_sub [] rfl (sf_X1_faultOfItem_41 hL (2 : Int32) w)
def f_X1_faultOfItem (N : Nat) (v1 : Int32) (v2 : Int32) (v3 : Int32) (w : Wd) : Option (Int32 × Wd) :=
  bd (f_X1_isLost N v1 w) fun x1 w2 =>
  if x1 = (0 : Int32) then
  if inb v1 N = true then
  if (w2.1 12 (Int32.toNatClampNeg v1)) = v2 then
  if v3 < (0 : Int32) then
  f_X1_faultOfItem_36 N w2
  else
  if inb v1 N = true then
  if v3 < (w2.1 13 (Int32.toNatClampNeg v1)) then
  f_X1_faultOfItem_41 N (0 : Int32) w2
  else
  f_X1_faultOfItem_36 N w2
  else none
  else
  some ((3 : Int32), w2)
  else none
  else
  some ((1 : Int32), w2)
set_option maxRecDepth 20000 in
theorem c_X1_faultOfItem {E : Ev} (hL : LX E) (v1 : Int32) (v2 : Int32) (v3 : Int32) (w : Wd) : Ct E m_X1_faultOfItem yX1_faultOfItem rI [.ref (Ea E 11), .int v1, .int v2, .int v3] w (f_X1_faultOfItem (En E) v1 v2 v3 w) := by
  refine Ct.of (by decide) ⟨rfl, rfl⟩ (Nat.le_of_ble_eq_true rfl) ?_
  show Sim E m_X1_faultOfItem rI 0 [(0, .ref (Ea E 11)), (1, .int v1), (2, .int v2), (3, .int v3)] [] w (f_X1_faultOfItem (En E) v1 v2 v3 w)
  unfold f_X1_faultOfItem
  refine sim_aload_n 0 dX1_faultOfItem_0 rfl rfl ?_
  refine sim_iload_n 1 dX1_faultOfItem_1 rfl rfl ?_
  refine sim_cVi (k := 11) (ci := 1) [.int v1] [] (c_X1_isLost hL v1 w) (hL.1 11 rfl) rfl (by decide) rfl cb_X1_27 im_X1_isLost se_X1_isLost rfl rfl rfl (Nat.le_of_ble_eq_true rfl) dX1_faultOfItem_2 rfl (fun x1 w2 => ?_)
  refine sim_if_eq 10 dX1_faultOfItem_5 rfl rfl (fun _ => ?_) (fun _ => ?_)
  · refine sim_aload_n 0 dX1_faultOfItem_10 rfl rfl ?_
    refine sim_get (k := 11) (ci := 1) (j := 1) (v := .ref (Ea E 12)) (hL.1 11 rfl) rfl (by decide) fl_X1_15 rfl dX1_faultOfItem_11 rfl ?_
    refine sim_iload_n 1 dX1_faultOfItem_14 rfl rfl ?_
    refine sim_iaload (k := 12) (hL.1 12 rfl) rfl rfl dX1_faultOfItem_15 rfl ?_
    refine sim_iload_n 2 dX1_faultOfItem_16 rfl rfl ?_
    refine sim_icmp_eq 22 dX1_faultOfItem_17 rfl rfl (fun _ => ?_) (fun _ => ?_)
    · refine sim_iload_n 3 dX1_faultOfItem_22 rfl rfl ?_
      refine sim_if_lt 36 dX1_faultOfItem_23 rfl rfl (fun _ => ?_) (fun _ => ?_)
      · exact sim_sub [] rfl (sf_X1_faultOfItem_36 hL w2)
      · refine sim_iload_n 3 dX1_faultOfItem_26 rfl rfl ?_
        refine sim_aload_n 0 dX1_faultOfItem_27 rfl rfl ?_
        refine sim_get (k := 11) (ci := 1) (j := 2) (v := .ref (Ea E 13)) (hL.1 11 rfl) rfl (by decide) fl_X1_19 rfl dX1_faultOfItem_28 rfl ?_
        refine sim_iload_n 1 dX1_faultOfItem_31 rfl rfl ?_
        refine sim_iaload (k := 13) (hL.1 13 rfl) rfl rfl dX1_faultOfItem_32 rfl ?_
        refine sim_icmp_lt 40 dX1_faultOfItem_33 rfl rfl (fun _ => ?_) (fun _ => ?_)
        · refine sim_iconst (0 : Int32) dX1_faultOfItem_40 rfl rfl ?_
          exact sim_sub [] rfl (sf_X1_faultOfItem_41 hL (0 : Int32) w2)
        · exact sim_sub [] rfl (sf_X1_faultOfItem_36 hL w2)
    · refine sim_iconst (3 : Int32) dX1_faultOfItem_20 rfl rfl ?_
      exact sim_iret rfl dX1_faultOfItem_21
  · refine sim_iconst (1 : Int32) dX1_faultOfItem_8 rfl rfl ?_
    exact sim_iret rfl dX1_faultOfItem_9
def f_X1_hasItems_35 (N : Nat) (s0 : Int32) (w : Wd) : Option (Int32 × Wd) :=
  if zb s0 = true then some (s0, w) else none
set_option maxRecDepth 20000 in
theorem sf_X1_hasItems_35 {E : Ev} (hL : LX E) (s0 : Int32) (w : Wd) : Sim E m_X1_hasItems rI 35 [] [.int s0] w (f_X1_hasItems_35 (En E) s0 w) := by
  unfold f_X1_hasItems_35
  exact sim_zret rfl dX1_hasItems_35
def f_X1_hasItems_34 (N : Nat) (w : Wd) : Option (Int32 × Wd) :=
  f_X1_hasItems_35 N (0 : Int32) w
set_option maxRecDepth 20000 in
theorem sf_X1_hasItems_34 {E : Ev} (hL : LX E) (w : Wd) : Sim E m_X1_hasItems rI 34 [] [] w (f_X1_hasItems_34 (En E) w) := by
  unfold f_X1_hasItems_34
  refine sim_iconst (0 : Int32) dX1_hasItems_34 rfl rfl ?_
  exact sim_sub [] rfl (sf_X1_hasItems_35 hL (0 : Int32) w)
def f_X1_hasItems (N : Nat) (v1 : Int32) (v2 : Int32) (v3 : Int32) (w : Wd) : Option (Int32 × Wd) :=
  if v2 < (0 : Int32) then
  f_X1_hasItems_34 N w
  else
  if v3 < (0 : Int32) then
  f_X1_hasItems_34 N w
  else
  if inb v1 N = true then
  if (w.1 13 (Int32.toNatClampNeg v1)) < v3 then
  f_X1_hasItems_34 N w
  else
  if inb v1 N = true then
  if ((w.1 13 (Int32.toNatClampNeg v1)) - v3) < v2 then
  f_X1_hasItems_34 N w
  else
  f_X1_hasItems_35 N (1 : Int32) w
  else none
  else none
set_option maxRecDepth 20000 in
theorem c_X1_hasItems {E : Ev} (hL : LX E) (v1 : Int32) (v2 : Int32) (v3 : Int32) (w : Wd) : Ct E m_X1_hasItems yX1_hasItems rI [.ref (Ea E 11), .int v1, .int v2, .int v3] w (f_X1_hasItems (En E) v1 v2 v3 w) := by
  refine Ct.of (by decide) ⟨rfl, rfl⟩ (Nat.le_of_ble_eq_true rfl) ?_
  show Sim E m_X1_hasItems rI 0 [(0, .ref (Ea E 11)), (1, .int v1), (2, .int v2), (3, .int v3)] [] w (f_X1_hasItems (En E) v1 v2 v3 w)
  unfold f_X1_hasItems
  refine sim_iload_n 2 dX1_hasItems_0 rfl rfl ?_
  refine sim_if_lt 34 dX1_hasItems_1 rfl rfl (fun _ => ?_) (fun _ => ?_)
  · exact sim_sub [] rfl (sf_X1_hasItems_34 hL w)
  · refine sim_iload_n 3 dX1_hasItems_4 rfl rfl ?_
    refine sim_if_lt 34 dX1_hasItems_5 rfl rfl (fun _ => ?_) (fun _ => ?_)
    · exact sim_sub [] rfl (sf_X1_hasItems_34 hL w)
    · refine sim_iload_n 3 dX1_hasItems_8 rfl rfl ?_
      refine sim_aload_n 0 dX1_hasItems_9 rfl rfl ?_
      refine sim_get (k := 11) (ci := 1) (j := 2) (v := .ref (Ea E 13)) (hL.1 11 rfl) rfl (by decide) fl_X1_19 rfl dX1_hasItems_10 rfl ?_
      refine sim_iload_n 1 dX1_hasItems_13 rfl rfl ?_
      refine sim_iaload (k := 13) (hL.1 13 rfl) rfl rfl dX1_hasItems_14 rfl ?_
      refine sim_icmp_gt 34 dX1_hasItems_15 rfl rfl (fun _ => ?_) (fun _ => ?_)
      · exact sim_sub [] rfl (sf_X1_hasItems_34 hL w)
      · refine sim_iload_n 2 dX1_hasItems_18 rfl rfl ?_
        refine sim_aload_n 0 dX1_hasItems_19 rfl rfl ?_
        refine sim_get (k := 11) (ci := 1) (j := 2) (v := .ref (Ea E 13)) (hL.1 11 rfl) rfl (by decide) fl_X1_19 rfl dX1_hasItems_20 rfl ?_
        refine sim_iload_n 1 dX1_hasItems_23 rfl rfl ?_
        refine sim_iaload (k := 13) (hL.1 13 rfl) rfl rfl dX1_hasItems_24 rfl ?_
        refine sim_iload_n 3 dX1_hasItems_25 rfl rfl ?_
        refine sim_isub dX1_hasItems_26 rfl ?_
        refine sim_icmp_gt 34 dX1_hasItems_27 rfl rfl (fun _ => ?_) (fun _ => ?_)
        · exact sim_sub [] rfl (sf_X1_hasItems_34 hL w)
        · refine sim_iconst (1 : Int32) dX1_hasItems_30 rfl rfl ?_
          refine sim_goto (q := 35) dX1_hasItems_31 rfl ?_
          exact sim_sub [] rfl (sf_X1_hasItems_35 hL (1 : Int32) w)
def f_X1_someIsTooShort_33 (N : Nat) (R : Int32 → Wd → Option (Int32 × Wd)) (K31 : Wd → Option (Int32 × Wd)) (K39 : Wd → Option (Int32 × Wd)) (v1 : Int32) (w : Wd) : Option (Int32 × Wd) :=
  R (v1 + (1 : Int32)) w
set_option maxRecDepth 20000 in
theorem sf_X1_someIsTooShort_33 {E : Ev} (hL : LX E) {R : Int32 → Wd → Option (Int32 × Wd)} (hR : ∀ (v1 : Int32) (w : Wd), Sim E m_X1_someIsTooShort rI 2 [(0, .ref (Ea E 11)), (1, .int v1)] [] w (R v1 w)) {K31 : Wd → Option (Int32 × Wd)} (hK31 : ∀ (w : Wd), Sim E m_X1_someIsTooShort rI 31 [] [] w (K31  w)) {K39 : Wd → Option (Int32 × Wd)} (hK39 : ∀ (w : Wd), Sim E m_X1_someIsTooShort rI 39 [] [] w (K39  w)) (v1 : Int32) (w : Wd) : Sim E m_X1_someIsTooShort rI 33 [(0, .ref (Ea E 11)), (1, .int v1)] [] w (f_X1_someIsTooShort_33 (En E) R K31 K39 v1 w) := by
  unfold f_X1_someIsTooShort_33
  refine sim_iinc (v1 + (1 : Int32)) 1 [(1, .int (v1 + (1 : Int32))), (0, .ref (Ea E 11))] dX1_someIsTooShort_33 rfl rfl (Nat.le_of_ble_eq_true rfl) rfl rfl ?_
  refine sim_goto (q := 2) dX1_someIsTooShort_36 rfl ?_
  exact sim_sub [1, 0] rfl (hR (v1 + (1 : Int32)) w)
def b_X1_someIsTooShort_2 (N : Nat) (R : Int32 → Wd → Option (Int32 × Wd)) (K31 : Wd → Option (Int32 × Wd)) (K39 : Wd → Option (Int32 × Wd)) (v1 : Int32) (w : Wd) : Option (Int32 × Wd) :=
  if (w.1 11 0) ≤ v1 then
  K39 w
  else
  bd (f_X1_isLost N v1 w) fun x1 w2 =>
  if x1 = (0 : Int32) then
  if inb v1 N = true then
  if (w2.1 11 0) ≤ (w2.1 13 (Int32.toNatClampNeg v1)) then
  f_X1_someIsTooShort_33 N R K31 K39 v1 w2
  else
  K31 w2
  else none
  else
  f_X1_someIsTooShort_33 N R K31 K39 v1 w2
set_option maxRecDepth 20000 in
theorem sb_X1_someIsTooShort_2 {E : Ev} (hL : LX E) {R : Int32 → Wd → Option (Int32 × Wd)} (hR : ∀ (v1 : Int32) (w : Wd), Sim E m_X1_someIsTooShort rI 2 [(0, .ref (Ea E 11)), (1, .int v1)] [] w (R v1 w)) {K31 : Wd → Option (Int32 × Wd)} (hK31 : ∀ (w : Wd), Sim E m_X1_someIsTooShort rI 31 [] [] w (K31  w)) {K39 : Wd → Option (Int32 × Wd)} (hK39 : ∀ (w : Wd), Sim E m_X1_someIsTooShort rI 39 [] [] w (K39  w)) (v1 : Int32) (w : Wd) : Sim E m_X1_someIsTooShort rI 2 [(0, .ref (Ea E 11)), (1, .int v1)] [] w (b_X1_someIsTooShort_2 (En E) R K31 K39 v1 w) := by
  unfold b_X1_someIsTooShort_2
  refine sim_iload_n 1 dX1_someIsTooShort_2 rfl rfl ?_
  refine sim_aload_n 0 dX1_someIsTooShort_3 rfl rfl ?_
  refine sim_get (k := 11) (ci := 1) (j := 0) (v := .int (w.1 11 0)) (hL.1 11 rfl) rfl (by decide) fl_X1_9 rfl dX1_someIsTooShort_4 rfl ?_
  refine sim_icmp_ge 39 dX1_someIsTooShort_7 rfl rfl (fun _ => ?_) (fun _ => ?_)
  · exact sim_sub [] rfl (hK39 w)
  · refine sim_aload_n 0 dX1_someIsTooShort_10 rfl rfl ?_
    refine sim_iload_n 1 dX1_someIsTooShort_11 rfl rfl ?_
    refine sim_cVi (k := 11) (ci := 1) [.int v1] [] (c_X1_isLost hL v1 w) (hL.1 11 rfl) rfl (by decide) rfl cb_X1_27 im_X1_isLost se_X1_isLost rfl rfl rfl (Nat.le_of_ble_eq_true rfl) dX1_someIsTooShort_12 rfl (fun x1 w2 => ?_)
    refine sim_if_ne 33 dX1_someIsTooShort_15 rfl rfl (fun _ => ?_) (fun _ => ?_)
    · exact sim_sub [0, 1] rfl (sf_X1_someIsTooShort_33 hL hR hK31 hK39 v1 w2)
    · refine sim_aload_n 0 dX1_someIsTooShort_18 rfl rfl ?_
      refine sim_get (k := 11) (ci := 1) (j := 2) (v := .ref (Ea E 13)) (hL.1 11 rfl) rfl (by decide) fl_X1_19 rfl dX1_someIsTooShort_19 rfl ?_
      refine sim_iload_n 1 dX1_someIsTooShort_22 rfl rfl ?_
      refine sim_iaload (k := 13) (hL.1 13 rfl) rfl rfl dX1_someIsTooShort_23 rfl ?_
      refine sim_aload_n 0 dX1_someIsTooShort_24 rfl rfl ?_
      refine sim_get (k := 11) (ci := 1) (j := 0) (v := .int (w2.1 11 0)) (hL.1 11 rfl) rfl (by decide) fl_X1_9 rfl dX1_someIsTooShort_25 rfl ?_
      refine sim_icmp_ge 33 dX1_someIsTooShort_28 rfl rfl (fun _ => ?_) (fun _ => ?_)
      · exact sim_sub [0, 1] rfl (sf_X1_someIsTooShort_33 hL hR hK31 hK39 v1 w2)
      · exact sim_sub [] rfl (hK31 w2)
def l_X1_someIsTooShort_2 (N : Nat) (K31 : Wd → Option (Int32 × Wd)) (K39 : Wd → Option (Int32 × Wd)) (n : Nat) : Int32 → Wd → Option (Int32 × Wd) := itr (fun _ _ => none) (fun R => b_X1_someIsTooShort_2 N R K31 K39) n
set_option maxRecDepth 20000 in
theorem sl_X1_someIsTooShort_2 {E : Ev} (hL : LX E) {K31 : Wd → Option (Int32 × Wd)} (hK31 : ∀ (w : Wd), Sim E m_X1_someIsTooShort rI 31 [] [] w (K31  w)) {K39 : Wd → Option (Int32 × Wd)} (hK39 : ∀ (w : Wd), Sim E m_X1_someIsTooShort rI 39 [] [] w (K39  w)) : ∀ (n : Nat) (v1 : Int32) (w : Wd), Sim E m_X1_someIsTooShort rI 2 [(0, .ref (Ea E 11)), (1, .int v1)] [] w (l_X1_someIsTooShort_2 (En E) K31 K39 n v1 w) := by
  intro n
  induction n with
  | zero => intros; exact sim_none
  | succ n ih => intros; exact sb_X1_someIsTooShort_2 hL (R := l_X1_someIsTooShort_2 (En E) K31 K39 n) ih hK31 hK39 _ _
def f_X1_someIsTooShort_31 (N : Nat) (w : Wd) : Option (Int32 × Wd) :=
  if zb (1 : Int32) = true then some ((1 : Int32), w) else none
set_option maxRecDepth 20000 in
theorem sf_X1_someIsTooShort_31 {E : Ev} (hL : LX E) (w : Wd) : Sim E m_X1_someIsTooShort rI 31 [] [] w (f_X1_someIsTooShort_31 (En E) w) := by
  unfold f_X1_someIsTooShort_31
  refine sim_iconst (1 : Int32) dX1_someIsTooShort_31 rfl rfl ?_
  exact sim_zret rfl dX1_someIsTooShort_32
def f_X1_someIsTooShort_39 (N : Nat) (w : Wd) : Option (Int32 × Wd) :=
  if zb (0 : Int32) = true then some ((0 : Int32), w) else none
set_option maxRecDepth 20000 in
theorem sf_X1_someIsTooShort_39 {E : Ev} (hL : LX E) (w : Wd) : Sim E m_X1_someIsTooShort rI 39 [] [] w (f_X1_someIsTooShort_39 (En E) w) := by
  unfold f_X1_someIsTooShort_39
  refine sim_iconst (0 : Int32) dX1_someIsTooShort_39 rfl rfl ?_
  exact sim_zret rfl dX1_someIsTooShort_40
def f_X1_someIsTooShort (N : Nat) (w : Wd) : Option (Int32 × Wd) :=
  l_X1_someIsTooShort_2 N (f_X1_someIsTooShort_31 N) (f_X1_someIsTooShort_39 N) FU (0 : Int32) w
set_option maxRecDepth 20000 in
theorem c_X1_someIsTooShort {E : Ev} (hL : LX E) (w : Wd) : Ct E m_X1_someIsTooShort yX1_someIsTooShort rI [.ref (Ea E 11)] w (f_X1_someIsTooShort (En E) w) := by
  refine Ct.of (by decide) ⟨rfl, rfl⟩ (Nat.le_of_ble_eq_true rfl) ?_
  show Sim E m_X1_someIsTooShort rI 0 [(0, .ref (Ea E 11))] [] w (f_X1_someIsTooShort (En E) w)
  unfold f_X1_someIsTooShort
  refine sim_iconst (0 : Int32) dX1_someIsTooShort_0 rfl rfl ?_
  refine sim_istore_n [(1, .int (0 : Int32)), (0, .ref (Ea E 11))] dX1_someIsTooShort_1 (Nat.le_of_ble_eq_true rfl) rfl rfl ?_
  exact sim_sub [1, 0] rfl (sl_X1_someIsTooShort_2 hL (sf_X1_someIsTooShort_31 hL) (sf_X1_someIsTooShort_39 hL) FU (0 : Int32) w)
def f_X1_told_20 (N : Nat) (s0 : Int32) (w : Wd) : Option (Int32 × Wd) :=
  some (s0, w)
set_option maxRecDepth 20000 in
theorem sf_X1_told_20 {E : Ev} (hL : LX E) (s0 : Int32) (w : Wd) : Sim E m_X1_told rI 20 [] [.int s0] w (f_X1_told_20 (En E) s0 w) := by
  unfold f_X1_told_20
  exact sim_iret rfl dX1_told_20
def f_X1_told (N : Nat) (v1 : Int32) (v2 : Int32) (w : Wd) : Option (Int32 × Wd) :=
  bd (f_X1_isLost N v1 w) fun x1 w2 =>
  if x1 = (0 : Int32) then
  if inb v1 N = true then
  if inb v2 12 = true then
  f_X1_told_20 N (w2.1 (14 + 1 + (Int32.toNatClampNeg v1)) (Int32.toNatClampNeg v2)) w2
  else none
  else none
  else
  f_X1_told_20 N (0 : Int32) w2
set_option maxRecDepth 20000 in
theorem c_X1_told {E : Ev} (hL : LX E) (v1 : Int32) (v2 : Int32) (w : Wd) : Ct E m_X1_told yX1_told rI [.ref (Ea E 11), .int v1, .int v2] w (f_X1_told (En E) v1 v2 w) := by
  refine Ct.of (by decide) ⟨rfl, rfl⟩ (Nat.le_of_ble_eq_true rfl) ?_
  show Sim E m_X1_told rI 0 [(0, .ref (Ea E 11)), (1, .int v1), (2, .int v2)] [] w (f_X1_told (En E) v1 v2 w)
  unfold f_X1_told
  refine sim_aload_n 0 dX1_told_0 rfl rfl ?_
  refine sim_iload_n 1 dX1_told_1 rfl rfl ?_
  refine sim_cVi (k := 11) (ci := 1) [.int v1] [] (c_X1_isLost hL v1 w) (hL.1 11 rfl) rfl (by decide) rfl cb_X1_27 im_X1_isLost se_X1_isLost rfl rfl rfl (Nat.le_of_ble_eq_true rfl) dX1_told_2 rfl (fun x1 w2 => ?_)
  refine sim_if_eq 12 dX1_told_5 rfl rfl (fun _ => ?_) (fun _ => ?_)
  · refine sim_aload_n 0 dX1_told_12 rfl rfl ?_
    refine sim_get (k := 11) (ci := 1) (j := 3) (v := .ref (Ea E 14)) (hL.1 11 rfl) rfl (by decide) fl_X1_24 rfl dX1_told_13 rfl ?_
    refine sim_iload_n 1 dX1_told_16 rfl rfl ?_
    refine sim_aaload (k := 14) (hL.1 14 rfl) rfl rfl rfl dX1_told_17 rfl (fun hi3 => ?_)
    refine sim_iload_n 2 dX1_told_18 rfl rfl ?_
    refine sim_iaload (k := (14 + 1 + (Int32.toNatClampNeg v1))) (hL.2.1 _ (inb_lt hi3)) (row_kd _ (Nat.lt_of_lt_of_le (inb_lt hi3) hL.2.2.2)) (row_ln _ (Nat.lt_of_lt_of_le (inb_lt hi3) hL.2.2.2)) dX1_told_19 rfl ?_
    exact sim_sub [] rfl (sf_X1_told_20 hL (w2.1 (14 + 1 + (Int32.toNatClampNeg v1)) (Int32.toNatClampNeg v2)) w2)
  · refine sim_iconst (0 : Int32) dX1_told_8 rfl rfl ?_
    refine sim_goto (q := 20) dX1_told_9 rfl ?_
    exact sim_sub [] rfl (sf_X1_told_20 hL (0 : Int32) w2)
def f_X3_going_17 (s0 : Int32) (s1 : Int32) (w : Wd) : Option (Int32 × Wd) :=
  some ((s0 ||| s1), w)
set_option maxRecDepth 20000 in
theorem sf_X3_going_17 {E : Ev} (s0 : Int32) (s1 : Int32) (w : Wd) : Sim E m_X3_going rI 17 [] [.int s1, .int s0] w (f_X3_going_17 s0 s1 w) := by
  unfold f_X3_going_17
  refine sim_ior dX3_going_17 rfl ?_
  exact sim_iret rfl dX3_going_18
def f_X3_going (v0 : Int32) (v1 : Int32) (v2 : Int32) (w : Wd) : Option (Int32 × Wd) :=
  if v2 = (0 : Int32) then
  f_X3_going_17 ((v0 <<< ((6 : Int32) &&& 31)) ||| v1) (0 : Int32) w
  else
  f_X3_going_17 ((v0 <<< ((6 : Int32) &&& 31)) ||| v1) (4096 : Int32) w
set_option maxRecDepth 20000 in
theorem c_X3_going {E : Ev} (v0 : Int32) (v1 : Int32) (v2 : Int32) (w : Wd) : Ct E m_X3_going yX3_going rI [.int v0, .int v1, .int v2] w (f_X3_going v0 v1 v2 w) := by
  refine Ct.of (by decide) ⟨rfl, rfl⟩ (Nat.le_of_ble_eq_true rfl) ?_
  show Sim E m_X3_going rI 0 [(0, .int v0), (1, .int v1), (2, .int v2)] [] w (f_X3_going v0 v1 v2 w)
  unfold f_X3_going
  refine sim_iload_n 0 dX3_going_0 rfl rfl ?_
  refine sim_bipush (6 : Int32) dX3_going_1 rfl rfl ?_
  refine sim_ishl dX3_going_3 rfl ?_
  refine sim_iload_n 1 dX3_going_4 rfl rfl ?_
  refine sim_ior dX3_going_5 rfl ?_
  refine sim_iload_n 2 dX3_going_6 rfl rfl ?_
  refine sim_if_eq 16 dX3_going_7 rfl rfl (fun _ => ?_) (fun _ => ?_)
  · refine sim_iconst (0 : Int32) dX3_going_16 rfl rfl ?_
    exact sim_sub [] rfl (sf_X3_going_17  ((v0 <<< ((6 : Int32) &&& 31)) ||| v1) (0 : Int32) w)
  · refine sim_sipush (4096 : Int32) dX3_going_10 rfl rfl ?_
    refine sim_goto (q := 17) dX3_going_13 rfl ?_
    exact sim_sub [] rfl (sf_X3_going_17  ((v0 <<< ((6 : Int32) &&& 31)) ||| v1) (4096 : Int32) w)
def f_X3_fromOf_18 (s0 : Int32) (w : Wd) : Option (Int32 × Wd) :=
  some (s0, w)
set_option maxRecDepth 20000 in
theorem sf_X3_fromOf_18 {E : Ev} (s0 : Int32) (w : Wd) : Sim E m_X3_fromOf rI 18 [] [.int s0] w (f_X3_fromOf_18 s0 w) := by
  unfold f_X3_fromOf_18
  exact sim_iret rfl dX3_fromOf_18
def f_X3_fromOf (v0 : Int32) (w : Wd) : Option (Int32 × Wd) :=
  bd (f_X3_isSetting v0 w) fun x1 w2 =>
  if x1 = (0 : Int32) then
  f_X3_fromOf_18 ((v0 >>> ((6 : Int32) &&& 31)) &&& (63 : Int32)) w2
  else
  f_X3_fromOf_18 (-1 : Int32) w2
set_option maxRecDepth 20000 in
theorem c_X3_fromOf {E : Ev} (v0 : Int32) (w : Wd) : Ct E m_X3_fromOf yX3_fromOf rI [.int v0] w (f_X3_fromOf v0 w) := by
  refine Ct.of (by decide) ⟨rfl, rfl⟩ (Nat.le_of_ble_eq_true rfl) ?_
  show Sim E m_X3_fromOf rI 0 [(0, .int v0)] [] w (f_X3_fromOf v0 w)
  unfold f_X3_fromOf
  refine sim_iload_n 0 dX3_fromOf_0 rfl rfl ?_
  refine sim_cSi [.int v0] [] (c_X3_isSetting v0 w) cb_X3_11 sx_X3_isSetting rfl rfl rfl (Nat.le_of_ble_eq_true rfl) dX3_fromOf_1 rfl (fun x1 w2 => ?_)
  refine sim_if_eq 11 dX3_fromOf_4 rfl rfl (fun _ => ?_) (fun _ => ?_)
  · refine sim_iload_n 0 dX3_fromOf_11 rfl rfl ?_
    refine sim_bipush (6 : Int32) dX3_fromOf_12 rfl rfl ?_
    refine sim_ishr dX3_fromOf_14 rfl ?_
    refine sim_bipush (63 : Int32) dX3_fromOf_15 rfl rfl ?_
    refine sim_iand dX3_fromOf_17 rfl ?_
    exact sim_sub [] rfl (sf_X3_fromOf_18  ((v0 >>> ((6 : Int32) &&& 31)) &&& (63 : Int32)) w2)
  · refine sim_iconst (-1 : Int32) dX3_fromOf_7 rfl rfl ?_
    refine sim_goto (q := 18) dX3_fromOf_8 rfl ?_
    exact sim_sub [] rfl (sf_X3_fromOf_18  (-1 : Int32) w2)
def f_X3_setKindOf_18 (s0 : Int32) (w : Wd) : Option (Int32 × Wd) :=
  some (s0, w)
set_option maxRecDepth 20000 in
theorem sf_X3_setKindOf_18 {E : Ev} (s0 : Int32) (w : Wd) : Sim E m_X3_setKindOf rI 18 [] [.int s0] w (f_X3_setKindOf_18 s0 w) := by
  unfold f_X3_setKindOf_18
  exact sim_iret rfl dX3_setKindOf_18
def f_X3_setKindOf (v0 : Int32) (w : Wd) : Option (Int32 × Wd) :=
  bd (f_X3_isSetting v0 w) fun x1 w2 =>
  if x1 = (0 : Int32) then
  f_X3_setKindOf_18 (-1 : Int32) w2
  else
  f_X3_setKindOf_18 ((v0 >>> ((13 : Int32) &&& 31)) &&& (7 : Int32)) w2
set_option maxRecDepth 20000 in
theorem c_X3_setKindOf {E : Ev} (v0 : Int32) (w : Wd) : Ct E m_X3_setKindOf yX3_setKindOf rI [.int v0] w (f_X3_setKindOf v0 w) := by
  refine Ct.of (by decide) ⟨rfl, rfl⟩ (Nat.le_of_ble_eq_true rfl) ?_
  show Sim E m_X3_setKindOf rI 0 [(0, .int v0)] [] w (f_X3_setKindOf v0 w)
  unfold f_X3_setKindOf
  refine sim_iload_n 0 dX3_setKindOf_0 rfl rfl ?_
  refine sim_cSi [.int v0] [] (c_X3_isSetting v0 w) cb_X3_11 sx_X3_isSetting rfl rfl rfl (Nat.le_of_ble_eq_true rfl) dX3_setKindOf_1 rfl (fun x1 w2 => ?_)
  refine sim_if_eq 17 dX3_setKindOf_4 rfl rfl (fun _ => ?_) (fun _ => ?_)
  · refine sim_iconst (-1 : Int32) dX3_setKindOf_17 rfl rfl ?_
    exact sim_sub [] rfl (sf_X3_setKindOf_18  (-1 : Int32) w2)
  · refine sim_iload_n 0 dX3_setKindOf_7 rfl rfl ?_
    refine sim_bipush (13 : Int32) dX3_setKindOf_8 rfl rfl ?_
    refine sim_ishr dX3_setKindOf_10 rfl ?_
    refine sim_bipush (7 : Int32) dX3_setKindOf_11 rfl rfl ?_
    refine sim_iand dX3_setKindOf_13 rfl ?_
    refine sim_goto (q := 18) dX3_setKindOf_14 rfl ?_
    exact sim_sub [] rfl (sf_X3_setKindOf_18  ((v0 >>> ((13 : Int32) &&& 31)) &&& (7 : Int32)) w2)
def f_X3_takenKindOf_17 (s0 : Int32) (w : Wd) : Option (Int32 × Wd) :=
  some (s0, w)
set_option maxRecDepth 20000 in
theorem sf_X3_takenKindOf_17 {E : Ev} (s0 : Int32) (w : Wd) : Sim E m_X3_takenKindOf rI 17 [] [.int s0] w (f_X3_takenKindOf_17 s0 w) := by
  unfold f_X3_takenKindOf_17
  exact sim_iret rfl dX3_takenKindOf_17
def f_X3_takenKindOf (v0 : Int32) (w : Wd) : Option (Int32 × Wd) :=
  lt (v0 >>> ((16 : Int32) &&& 31)) fun x1 =>
  if x1 = (0 : Int32) then
  f_X3_takenKindOf_17 (-1 : Int32) w
  else
  bd (f_X2_kindOf x1 w) fun x2 w3 =>
  f_X3_takenKindOf_17 x2 w3
set_option maxRecDepth 20000 in
theorem c_X3_takenKindOf {E : Ev} (v0 : Int32) (w : Wd) : Ct E m_X3_takenKindOf yX3_takenKindOf rI [.int v0] w (f_X3_takenKindOf v0 w) := by
  refine Ct.of (by decide) ⟨rfl, rfl⟩ (Nat.le_of_ble_eq_true rfl) ?_
  show Sim E m_X3_takenKindOf rI 0 [(0, .int v0)] [] w (f_X3_takenKindOf v0 w)
  unfold f_X3_takenKindOf
  refine sim_iload_n 0 dX3_takenKindOf_0 rfl rfl ?_
  refine sim_bipush (16 : Int32) dX3_takenKindOf_1 rfl rfl ?_
  refine sim_ishr dX3_takenKindOf_3 rfl ?_
  refine sim_lt (fun x1 => ?_)
  refine sim_istore_n [(1, .int x1), (0, .int v0)] dX3_takenKindOf_4 (Nat.le_of_ble_eq_true rfl) rfl rfl ?_
  refine sim_iload_n 0 dX3_takenKindOf_5 rfl rfl ?_
  refine sim_if_ne 13 dX3_takenKindOf_6 rfl rfl (fun _ => ?_) (fun _ => ?_)
  · refine sim_iload_n 0 dX3_takenKindOf_13 rfl rfl ?_
    refine sim_cSi [.int x1] [] (c_X2_kindOf x1 w) cb_X3_15 sx_X2_kindOf rfl rfl rfl (Nat.le_of_ble_eq_true rfl) dX3_takenKindOf_14 rfl (fun x2 w3 => ?_)
    exact sim_sub [] rfl (sf_X3_takenKindOf_17  x2 w3)
  · refine sim_iconst (-1 : Int32) dX3_takenKindOf_9 rfl rfl ?_
    refine sim_goto (q := 17) dX3_takenKindOf_10 rfl ?_
    exact sim_sub [] rfl (sf_X3_takenKindOf_17  (-1 : Int32) w)
def b_X4_packedFields_21 (N : Nat) (o : Nat) (R : Int32 → Int64 → Int32 → Wd → Option (Int64 × Wd)) (K50 : Int64 → Wd → Option (Int64 × Wd)) (v2 : Int32) (v3 : Int64) (v5 : Int32) (w : Wd) : Option (Int64 × Wd) :=
  if v2 ≤ v5 then
  K50 v3 w
  else
  if inb v5 (N * N) = true then
  lj ((v3 <<< (Int32.toInt64 (6 : Int32) &&& 63)) ||| (Int32.toInt64 (w.1 23 (Int32.toNatClampNeg v5)))) fun x2 =>
  R v2 x2 (v5 + (1 : Int32)) w
  else none
set_option maxRecDepth 20000 in
theorem sb_X4_packedFields_21 {E : Ev} (hL : LX E) {o : Nat} (ho : okP o = true) {R : Int32 → Int64 → Int32 → Wd → Option (Int64 × Wd)} (hR : ∀ (v2 : Int32) (v3 : Int64) (v5 : Int32) (w : Wd), Sim E m_X4_packedFields rJ 21 [(0, .ref (Ea E o)), (2, .int v2), (3, .long v3), (5, .int v5)] [] w (R v2 v3 v5 w)) {K50 : Int64 → Wd → Option (Int64 × Wd)} (hK50 : ∀ (v3 : Int64) (w : Wd), Sim E m_X4_packedFields rJ 50 [(3, .long v3)] [] w (K50 v3 w)) (v2 : Int32) (v3 : Int64) (v5 : Int32) (w : Wd) : Sim E m_X4_packedFields rJ 21 [(0, .ref (Ea E o)), (2, .int v2), (3, .long v3), (5, .int v5)] [] w (b_X4_packedFields_21 (En E) o R K50 v2 v3 v5 w) := by
  unfold b_X4_packedFields_21
  refine sim_iload 3 dX4_packedFields_21 rfl rfl ?_
  refine sim_iload_n 1 dX4_packedFields_23 rfl rfl ?_
  refine sim_icmp_ge 50 dX4_packedFields_24 rfl rfl (fun _ => ?_) (fun _ => ?_)
  · exact sim_sub [2] rfl (hK50 v3 w)
  · refine sim_lload_n 2 dX4_packedFields_27 rfl rfl ?_
    refine sim_bipush (6 : Int32) dX4_packedFields_28 rfl rfl ?_
    refine sim_lshl dX4_packedFields_30 rfl ?_
    refine sim_aload_n 0 dX4_packedFields_31 rfl rfl ?_
    refine sim_get (k := o) (ci := 2) (j := 0) (v := .ref (Ea E 22)) (okP_in ho hL).1 (okP_kd ho).1 (by decide) fl_X4_21 (by rw [fvs_P (okP_kd ho).1]; rfl) dX4_packedFields_32 rfl ?_
    refine sim_get (k := 22) (ci := 4) (j := 3) (v := .ref (Ea E 23)) (hL.1 22 rfl) rfl (by decide) fl_X4_80 rfl dX4_packedFields_35 rfl ?_
    refine sim_iload 3 dX4_packedFields_38 rfl rfl ?_
    refine sim_iaload (k := 23) (hL.1 23 rfl) rfl rfl dX4_packedFields_40 rfl ?_
    refine sim_i2l dX4_packedFields_41 rfl ?_
    refine sim_lor dX4_packedFields_42 rfl ?_
    refine sim_lj (fun x2 => ?_)
    refine sim_lstore_n [(3, .long x2), (0, .ref (Ea E o)), (2, .int v2), (5, .int v5)] dX4_packedFields_43 (Nat.le_of_ble_eq_true rfl) rfl rfl ?_
    refine sim_iinc (v5 + (1 : Int32)) 3 [(5, .int (v5 + (1 : Int32))), (3, .long x2), (0, .ref (Ea E o)), (2, .int v2)] dX4_packedFields_44 rfl rfl (Nat.le_of_ble_eq_true rfl) rfl rfl ?_
    refine sim_goto (q := 21) dX4_packedFields_47 rfl ?_
    exact sim_sub [2, 3, 1, 0] rfl (hR v2 x2 (v5 + (1 : Int32)) w)
def l_X4_packedFields_21 (N : Nat) (o : Nat) (K50 : Int64 → Wd → Option (Int64 × Wd)) (n : Nat) : Int32 → Int64 → Int32 → Wd → Option (Int64 × Wd) := itr (fun _ _ _ _ => none) (fun R => b_X4_packedFields_21 N o R K50) n
set_option maxRecDepth 20000 in
theorem sl_X4_packedFields_21 {E : Ev} (hL : LX E) {o : Nat} (ho : okP o = true) {K50 : Int64 → Wd → Option (Int64 × Wd)} (hK50 : ∀ (v3 : Int64) (w : Wd), Sim E m_X4_packedFields rJ 50 [(3, .long v3)] [] w (K50 v3 w)) : ∀ (n : Nat) (v2 : Int32) (v3 : Int64) (v5 : Int32) (w : Wd), Sim E m_X4_packedFields rJ 21 [(0, .ref (Ea E o)), (2, .int v2), (3, .long v3), (5, .int v5)] [] w (l_X4_packedFields_21 (En E) o K50 n v2 v3 v5 w) := by
  intro n
  induction n with
  | zero => intros; exact sim_none
  | succ n ih => intros; exact sb_X4_packedFields_21 hL ho (R := l_X4_packedFields_21 (En E) o K50 n) ih hK50 _ _ _ _
def f_X4_packedFields_50 (N : Nat) (o : Nat) (v3 : Int64) (w : Wd) : Option (Int64 × Wd) :=
  some (v3, w)
set_option maxRecDepth 20000 in
theorem sf_X4_packedFields_50 {E : Ev} (hL : LX E) {o : Nat} (ho : okP o = true) (v3 : Int64) (w : Wd) : Sim E m_X4_packedFields rJ 50 [(3, .long v3)] [] w (f_X4_packedFields_50 (En E) o v3 w) := by
  unfold f_X4_packedFields_50
  refine sim_lload_n 0 dX4_packedFields_50 rfl rfl ?_
  exact sim_lret rfl dX4_packedFields_51
def f_X4_packedFields (N : Nat) (o : Nat) (v1 : Int32) (w : Wd) : Option (Int64 × Wd) :=
  lt (if (Int32.ofNat (N * N)) < (v1 + (10 : Int32)) then (Int32.ofNat (N * N)) else (v1 + (10 : Int32))) fun x1 =>
  l_X4_packedFields_21 N o (f_X4_packedFields_50 N o) FU x1 (0 : Int64) v1 w
set_option maxRecDepth 20000 in
theorem c_X4_packedFields {E : Ev} (hL : LX E) {o : Nat} (ho : okP o = true) (v1 : Int32) (w : Wd) : Ct E m_X4_packedFields yX4_packedFields rJ [.ref (Ea E o), .int v1] w (f_X4_packedFields (En E) o v1 w) := by
  refine Ct.of (by decide) ⟨rfl, rfl⟩ (Nat.le_of_ble_eq_true rfl) ?_
  show Sim E m_X4_packedFields rJ 0 [(0, .ref (Ea E o)), (1, .int v1)] [] w (f_X4_packedFields (En E) o v1 w)
  unfold f_X4_packedFields
  refine sim_iload_n 1 dX4_packedFields_0 rfl rfl ?_
  refine sim_bipush (10 : Int32) dX4_packedFields_1 rfl rfl ?_
  refine sim_iadd dX4_packedFields_3 rfl ?_
  refine sim_aload_n 0 dX4_packedFields_4 rfl rfl ?_
  refine sim_get (k := o) (ci := 2) (j := 0) (v := .ref (Ea E 22)) (okP_in ho hL).1 (okP_kd ho).1 (by decide) fl_X4_21 (by rw [fvs_P (okP_kd ho).1]; rfl) dX4_packedFields_5 rfl ?_
  refine sim_get (k := 22) (ci := 4) (j := 3) (v := .ref (Ea E 23)) (hL.1 22 rfl) rfl (by decide) fl_X4_80 rfl dX4_packedFields_8 rfl ?_
  refine sim_alen (k := 23) (v := (Int32.ofNat ((En E) * (En E)))) (hL.1 23 rfl) rfl rfl rfl dX4_packedFields_11 rfl ?_
  refine sim_min mnl_X4_83 mn1 mn2 mn3 (Nat.le_of_ble_eq_true rfl) (by decide) dX4_packedFields_12 rfl ?_
  refine sim_lt (fun x1 => ?_)
  refine sim_istore_n [(2, .int x1), (0, .ref (Ea E o)), (1, .int v1)] dX4_packedFields_15 (Nat.le_of_ble_eq_true rfl) rfl rfl ?_
  refine sim_lconst (0 : Int64) dX4_packedFields_16 rfl rfl ?_
  refine sim_lstore_n [(3, .long (0 : Int64)), (2, .int x1), (0, .ref (Ea E o)), (1, .int v1)] dX4_packedFields_17 (Nat.le_of_ble_eq_true rfl) rfl rfl ?_
  refine sim_iload_n 3 dX4_packedFields_18 rfl rfl ?_
  refine sim_istore [(5, .int v1), (3, .long (0 : Int64)), (2, .int x1), (0, .ref (Ea E o)), (1, .int v1)] dX4_packedFields_19 (Nat.le_of_ble_eq_true rfl) rfl rfl ?_
  exact sim_sub [3, 2, 1, 0] rfl (sl_X4_packedFields_21 hL ho (sf_X4_packedFields_50 hL ho) FU x1 (0 : Int64) v1 w)
def b_X4_packedHand_7 (N : Nat) (o : Nat) (R : Int32 → Int64 → Int32 → Wd → Option (Int64 × Wd)) (K39 : Int64 → Wd → Option (Int64 × Wd)) (v1 : Int32) (v2 : Int64) (v4 : Int32) (w : Wd) : Option (Int64 × Wd) :=
  if (v1 + (8 : Int32)) ≤ v4 then
  K39 v2 w
  else
  if inb v4 16 = true then
  lj ((v2 <<< (Int32.toInt64 (7 : Int32) &&& 63)) ||| (Int32.toInt64 (w.1 24 (Int32.toNatClampNeg v4)))) fun x2 =>
  R v1 x2 (v4 + (1 : Int32)) w
  else none
set_option maxRecDepth 20000 in
theorem sb_X4_packedHand_7 {E : Ev} (hL : LX E) {o : Nat} (ho : okP o = true) {R : Int32 → Int64 → Int32 → Wd → Option (Int64 × Wd)} (hR : ∀ (v1 : Int32) (v2 : Int64) (v4 : Int32) (w : Wd), Sim E m_X4_packedHand rJ 7 [(0, .ref (Ea E o)), (1, .int v1), (2, .long v2), (4, .int v4)] [] w (R v1 v2 v4 w)) {K39 : Int64 → Wd → Option (Int64 × Wd)} (hK39 : ∀ (v2 : Int64) (w : Wd), Sim E m_X4_packedHand rJ 39 [(2, .long v2)] [] w (K39 v2 w)) (v1 : Int32) (v2 : Int64) (v4 : Int32) (w : Wd) : Sim E m_X4_packedHand rJ 7 [(0, .ref (Ea E o)), (1, .int v1), (2, .long v2), (4, .int v4)] [] w (b_X4_packedHand_7 (En E) o R K39 v1 v2 v4 w) := by
  unfold b_X4_packedHand_7
  refine sim_iload 3 dX4_packedHand_7 rfl rfl ?_
  refine sim_iload_n 1 dX4_packedHand_9 rfl rfl ?_
  refine sim_bipush (8 : Int32) dX4_packedHand_10 rfl rfl ?_
  refine sim_iadd dX4_packedHand_12 rfl ?_
  refine sim_icmp_ge 39 dX4_packedHand_13 rfl rfl (fun _ => ?_) (fun _ => ?_)
  · exact sim_sub [2] rfl (hK39 v2 w)
  · refine sim_lload_n 2 dX4_packedHand_16 rfl rfl ?_
    refine sim_bipush (7 : Int32) dX4_packedHand_17 rfl rfl ?_
    refine sim_lshl dX4_packedHand_19 rfl ?_
    refine sim_aload_n 0 dX4_packedHand_20 rfl rfl ?_
    refine sim_get (k := o) (ci := 2) (j := 0) (v := .ref (Ea E 22)) (okP_in ho hL).1 (okP_kd ho).1 (by decide) fl_X4_21 (by rw [fvs_P (okP_kd ho).1]; rfl) dX4_packedHand_21 rfl ?_
    refine sim_get (k := 22) (ci := 4) (j := 4) (v := .ref (Ea E 24)) (hL.1 22 rfl) rfl (by decide) fl_X4_89 rfl dX4_packedHand_24 rfl ?_
    refine sim_iload 3 dX4_packedHand_27 rfl rfl ?_
    refine sim_iaload (k := 24) (hL.1 24 rfl) rfl rfl dX4_packedHand_29 rfl ?_
    refine sim_i2l dX4_packedHand_30 rfl ?_
    refine sim_lor dX4_packedHand_31 rfl ?_
    refine sim_lj (fun x2 => ?_)
    refine sim_lstore_n [(2, .long x2), (0, .ref (Ea E o)), (1, .int v1), (4, .int v4)] dX4_packedHand_32 (Nat.le_of_ble_eq_true rfl) rfl rfl ?_
    refine sim_iinc (v4 + (1 : Int32)) 3 [(4, .int (v4 + (1 : Int32))), (2, .long x2), (0, .ref (Ea E o)), (1, .int v1)] dX4_packedHand_33 rfl rfl (Nat.le_of_ble_eq_true rfl) rfl rfl ?_
    refine sim_goto (q := 7) dX4_packedHand_36 rfl ?_
    exact sim_sub [2, 3, 1, 0] rfl (hR v1 x2 (v4 + (1 : Int32)) w)
def l_X4_packedHand_7 (N : Nat) (o : Nat) (K39 : Int64 → Wd → Option (Int64 × Wd)) (n : Nat) : Int32 → Int64 → Int32 → Wd → Option (Int64 × Wd) := itr (fun _ _ _ _ => none) (fun R => b_X4_packedHand_7 N o R K39) n
set_option maxRecDepth 20000 in
theorem sl_X4_packedHand_7 {E : Ev} (hL : LX E) {o : Nat} (ho : okP o = true) {K39 : Int64 → Wd → Option (Int64 × Wd)} (hK39 : ∀ (v2 : Int64) (w : Wd), Sim E m_X4_packedHand rJ 39 [(2, .long v2)] [] w (K39 v2 w)) : ∀ (n : Nat) (v1 : Int32) (v2 : Int64) (v4 : Int32) (w : Wd), Sim E m_X4_packedHand rJ 7 [(0, .ref (Ea E o)), (1, .int v1), (2, .long v2), (4, .int v4)] [] w (l_X4_packedHand_7 (En E) o K39 n v1 v2 v4 w) := by
  intro n
  induction n with
  | zero => intros; exact sim_none
  | succ n ih => intros; exact sb_X4_packedHand_7 hL ho (R := l_X4_packedHand_7 (En E) o K39 n) ih hK39 _ _ _ _
def f_X4_packedHand_39 (N : Nat) (o : Nat) (v2 : Int64) (w : Wd) : Option (Int64 × Wd) :=
  some (v2, w)
set_option maxRecDepth 20000 in
theorem sf_X4_packedHand_39 {E : Ev} (hL : LX E) {o : Nat} (ho : okP o = true) (v2 : Int64) (w : Wd) : Sim E m_X4_packedHand rJ 39 [(2, .long v2)] [] w (f_X4_packedHand_39 (En E) o v2 w) := by
  unfold f_X4_packedHand_39
  refine sim_lload_n 0 dX4_packedHand_39 rfl rfl ?_
  exact sim_lret rfl dX4_packedHand_40
def f_X4_packedHand (N : Nat) (o : Nat) (v1 : Int32) (w : Wd) : Option (Int64 × Wd) :=
  lt (v1 + (1 : Int32)) fun x1 =>
  l_X4_packedHand_7 N o (f_X4_packedHand_39 N o) FU v1 (0 : Int64) x1 w
set_option maxRecDepth 20000 in
theorem c_X4_packedHand {E : Ev} (hL : LX E) {o : Nat} (ho : okP o = true) (v1 : Int32) (w : Wd) : Ct E m_X4_packedHand yX4_packedHand rJ [.ref (Ea E o), .int v1] w (f_X4_packedHand (En E) o v1 w) := by
  refine Ct.of (by decide) ⟨rfl, rfl⟩ (Nat.le_of_ble_eq_true rfl) ?_
  show Sim E m_X4_packedHand rJ 0 [(0, .ref (Ea E o)), (1, .int v1)] [] w (f_X4_packedHand (En E) o v1 w)
  unfold f_X4_packedHand
  refine sim_lconst (0 : Int64) dX4_packedHand_0 rfl rfl ?_
  refine sim_lstore_n [(2, .long (0 : Int64)), (0, .ref (Ea E o)), (1, .int v1)] dX4_packedHand_1 (Nat.le_of_ble_eq_true rfl) rfl rfl ?_
  refine sim_iload_n 2 dX4_packedHand_2 rfl rfl ?_
  refine sim_iconst (1 : Int32) dX4_packedHand_3 rfl rfl ?_
  refine sim_iadd dX4_packedHand_4 rfl ?_
  refine sim_lt (fun x1 => ?_)
  refine sim_istore [(4, .int x1), (2, .long (0 : Int64)), (0, .ref (Ea E o)), (1, .int v1)] dX4_packedHand_5 (Nat.le_of_ble_eq_true rfl) rfl rfl ?_
  exact sim_sub [2, 3, 1, 0] rfl (sl_X4_packedHand_7 hL ho (sf_X4_packedHand_39 hL ho) FU v1 (0 : Int64) x1 w)
def b_X4_isSameStand_2 (N : Nat) (o : Nat) (R : Int32 → Int32 → Int32 → Wd → Option (Int32 × Wd)) (K34 : Wd → Option (Int32 × Wd)) (K42 : Wd → Option (Int32 × Wd)) (v1 : Int32) (v2 : Int32) (v3 : Int32) (w : Wd) : Option (Int32 × Wd) :=
  if (7 : Int32) ≤ v3 then
  K42 w
  else
  if inb (((7 : Int32) * v1) + v3) 2107 = true then
  if inb (((7 : Int32) * v2) + v3) 2107 = true then
  if (lg_cmp (w.2.1 (o + 3) (Int32.toNatClampNeg (((7 : Int32) * v1) + v3))) (w.2.1 (o + 3) (Int32.toNatClampNeg (((7 : Int32) * v2) + v3)))) = (0 : Int32) then
  R v1 v2 (v3 + (1 : Int32)) w
  else
  K34 w
  else none
  else none
set_option maxRecDepth 20000 in
theorem sb_X4_isSameStand_2 {E : Ev} (hL : LX E) {o : Nat} (ho : okP o = true) {R : Int32 → Int32 → Int32 → Wd → Option (Int32 × Wd)} (hR : ∀ (v1 : Int32) (v2 : Int32) (v3 : Int32) (w : Wd), Sim E m_X4_isSameStand rI 2 [(0, .ref (Ea E o)), (1, .int v1), (2, .int v2), (3, .int v3)] [] w (R v1 v2 v3 w)) {K34 : Wd → Option (Int32 × Wd)} (hK34 : ∀ (w : Wd), Sim E m_X4_isSameStand rI 34 [] [] w (K34  w)) {K42 : Wd → Option (Int32 × Wd)} (hK42 : ∀ (w : Wd), Sim E m_X4_isSameStand rI 42 [] [] w (K42  w)) (v1 : Int32) (v2 : Int32) (v3 : Int32) (w : Wd) : Sim E m_X4_isSameStand rI 2 [(0, .ref (Ea E o)), (1, .int v1), (2, .int v2), (3, .int v3)] [] w (b_X4_isSameStand_2 (En E) o R K34 K42 v1 v2 v3 w) := by
  unfold b_X4_isSameStand_2
  refine sim_iload_n 3 dX4_isSameStand_2 rfl rfl ?_
  refine sim_bipush (7 : Int32) dX4_isSameStand_3 rfl rfl ?_
  refine sim_icmp_ge 42 dX4_isSameStand_5 rfl rfl (fun _ => ?_) (fun _ => ?_)
  · exact sim_sub [] rfl (hK42 w)
  · refine sim_aload_n 0 dX4_isSameStand_8 rfl rfl ?_
    refine sim_get (k := o) (ci := 2) (j := 3) (v := .ref (Ea E (o + 3))) (okP_in ho hL).1 (okP_kd ho).1 (by decide) fl_X4_17 (by rw [fvs_P (okP_kd ho).1]; rfl) dX4_isSameStand_9 rfl ?_
    refine sim_bipush (7 : Int32) dX4_isSameStand_12 rfl rfl ?_
    refine sim_iload_n 1 dX4_isSameStand_14 rfl rfl ?_
    refine sim_imul dX4_isSameStand_15 rfl ?_
    refine sim_iload_n 3 dX4_isSameStand_16 rfl rfl ?_
    refine sim_iadd dX4_isSameStand_17 rfl ?_
    refine sim_laload (k := (o + 3)) (okP_in ho hL).2.2.2 (okP_kd ho).2.2.2 (okP_ln ho _).2.2 dX4_isSameStand_18 rfl ?_
    refine sim_aload_n 0 dX4_isSameStand_19 rfl rfl ?_
    refine sim_get (k := o) (ci := 2) (j := 3) (v := .ref (Ea E (o + 3))) (okP_in ho hL).1 (okP_kd ho).1 (by decide) fl_X4_17 (by rw [fvs_P (okP_kd ho).1]; rfl) dX4_isSameStand_20 rfl ?_
    refine sim_bipush (7 : Int32) dX4_isSameStand_23 rfl rfl ?_
    refine sim_iload_n 2 dX4_isSameStand_25 rfl rfl ?_
    refine sim_imul dX4_isSameStand_26 rfl ?_
    refine sim_iload_n 3 dX4_isSameStand_27 rfl rfl ?_
    refine sim_iadd dX4_isSameStand_28 rfl ?_
    refine sim_laload (k := (o + 3)) (okP_in ho hL).2.2.2 (okP_kd ho).2.2.2 (okP_ln ho _).2.2 dX4_isSameStand_29 rfl ?_
    refine sim_lcmp dX4_isSameStand_30 rfl ?_
    refine sim_if_eq 36 dX4_isSameStand_31 rfl rfl (fun _ => ?_) (fun _ => ?_)
    · refine sim_iinc (v3 + (1 : Int32)) 3 [(3, .int (v3 + (1 : Int32))), (0, .ref (Ea E o)), (1, .int v1), (2, .int v2)] dX4_isSameStand_36 rfl rfl (Nat.le_of_ble_eq_true rfl) rfl rfl ?_
      refine sim_goto (q := 2) dX4_isSameStand_39 rfl ?_
      exact sim_sub [1, 2, 3, 0] rfl (hR v1 v2 (v3 + (1 : Int32)) w)
    · exact sim_sub [] rfl (hK34 w)
def l_X4_isSameStand_2 (N : Nat) (o : Nat) (K34 : Wd → Option (Int32 × Wd)) (K42 : Wd → Option (Int32 × Wd)) (n : Nat) : Int32 → Int32 → Int32 → Wd → Option (Int32 × Wd) := itr (fun _ _ _ _ => none) (fun R => b_X4_isSameStand_2 N o R K34 K42) n
set_option maxRecDepth 20000 in
theorem sl_X4_isSameStand_2 {E : Ev} (hL : LX E) {o : Nat} (ho : okP o = true) {K34 : Wd → Option (Int32 × Wd)} (hK34 : ∀ (w : Wd), Sim E m_X4_isSameStand rI 34 [] [] w (K34  w)) {K42 : Wd → Option (Int32 × Wd)} (hK42 : ∀ (w : Wd), Sim E m_X4_isSameStand rI 42 [] [] w (K42  w)) : ∀ (n : Nat) (v1 : Int32) (v2 : Int32) (v3 : Int32) (w : Wd), Sim E m_X4_isSameStand rI 2 [(0, .ref (Ea E o)), (1, .int v1), (2, .int v2), (3, .int v3)] [] w (l_X4_isSameStand_2 (En E) o K34 K42 n v1 v2 v3 w) := by
  intro n
  induction n with
  | zero => intros; exact sim_none
  | succ n ih => intros; exact sb_X4_isSameStand_2 hL ho (R := l_X4_isSameStand_2 (En E) o K34 K42 n) ih hK34 hK42 _ _ _ _
def f_X4_isSameStand_34 (N : Nat) (o : Nat) (w : Wd) : Option (Int32 × Wd) :=
  if zb (0 : Int32) = true then some ((0 : Int32), w) else none
set_option maxRecDepth 20000 in
theorem sf_X4_isSameStand_34 {E : Ev} (hL : LX E) {o : Nat} (ho : okP o = true) (w : Wd) : Sim E m_X4_isSameStand rI 34 [] [] w (f_X4_isSameStand_34 (En E) o w) := by
  unfold f_X4_isSameStand_34
  refine sim_iconst (0 : Int32) dX4_isSameStand_34 rfl rfl ?_
  exact sim_zret rfl dX4_isSameStand_35
def f_X4_isSameStand_42 (N : Nat) (o : Nat) (w : Wd) : Option (Int32 × Wd) :=
  if zb (1 : Int32) = true then some ((1 : Int32), w) else none
set_option maxRecDepth 20000 in
theorem sf_X4_isSameStand_42 {E : Ev} (hL : LX E) {o : Nat} (ho : okP o = true) (w : Wd) : Sim E m_X4_isSameStand rI 42 [] [] w (f_X4_isSameStand_42 (En E) o w) := by
  unfold f_X4_isSameStand_42
  refine sim_iconst (1 : Int32) dX4_isSameStand_42 rfl rfl ?_
  exact sim_zret rfl dX4_isSameStand_43
def f_X4_isSameStand (N : Nat) (o : Nat) (v1 : Int32) (v2 : Int32) (w : Wd) : Option (Int32 × Wd) :=
  l_X4_isSameStand_2 N o (f_X4_isSameStand_34 N o) (f_X4_isSameStand_42 N o) FU v1 v2 (0 : Int32) w
set_option maxRecDepth 20000 in
theorem c_X4_isSameStand {E : Ev} (hL : LX E) {o : Nat} (ho : okP o = true) (v1 : Int32) (v2 : Int32) (w : Wd) : Ct E m_X4_isSameStand yX4_isSameStand rI [.ref (Ea E o), .int v1, .int v2] w (f_X4_isSameStand (En E) o v1 v2 w) := by
  refine Ct.of (by decide) ⟨rfl, rfl⟩ (Nat.le_of_ble_eq_true rfl) ?_
  show Sim E m_X4_isSameStand rI 0 [(0, .ref (Ea E o)), (1, .int v1), (2, .int v2)] [] w (f_X4_isSameStand (En E) o v1 v2 w)
  unfold f_X4_isSameStand
  refine sim_iconst (0 : Int32) dX4_isSameStand_0 rfl rfl ?_
  refine sim_istore_n [(3, .int (0 : Int32)), (0, .ref (Ea E o)), (1, .int v1), (2, .int v2)] dX4_isSameStand_1 (Nat.le_of_ble_eq_true rfl) rfl rfl ?_
  exact sim_sub [1, 2, 3, 0] rfl (sl_X4_isSameStand_2 hL ho (sf_X4_isSameStand_34 hL ho) (sf_X4_isSameStand_42 hL ho) FU v1 v2 (0 : Int32) w)
def f_X4_countTimes_44 (N : Nat) (o : Nat) (R : Int32 → Wd → Option (Unit × Wd)) (K50 : Wd → Option (Unit × Wd)) (v1 : Int32) (w : Wd) : Option (Unit × Wd) :=
  R (v1 + (-2 : Int32)) w
set_option maxRecDepth 20000 in
theorem sf_X4_countTimes_44 {E : Ev} (hL : LX E) {o : Nat} (ho : okP o = true) {R : Int32 → Wd → Option (Unit × Wd)} (hR : ∀ (v1 : Int32) (w : Wd), Sim E m_X4_countTimes rV 10 [(0, .ref (Ea E o)), (1, .int v1)] [] w (R v1 w)) {K50 : Wd → Option (Unit × Wd)} (hK50 : ∀ (w : Wd), Sim E m_X4_countTimes rV 50 [] [] w (K50  w)) (v1 : Int32) (w : Wd) : Sim E m_X4_countTimes rV 44 [(0, .ref (Ea E o)), (1, .int v1)] [] w (f_X4_countTimes_44 (En E) o R K50 v1 w) := by
  unfold f_X4_countTimes_44
  refine sim_iinc (v1 + (-2 : Int32)) 1 [(1, .int (v1 + (-2 : Int32))), (0, .ref (Ea E o))] dX4_countTimes_44 rfl rfl (Nat.le_of_ble_eq_true rfl) rfl rfl ?_
  refine sim_goto (q := 10) dX4_countTimes_47 rfl ?_
  exact sim_sub [1, 0] rfl (hR (v1 + (-2 : Int32)) w)
def b_X4_countTimes_10 (N : Nat) (o : Nat) (R : Int32 → Wd → Option (Unit × Wd)) (K50 : Wd → Option (Unit × Wd)) (v1 : Int32) (w : Wd) : Option (Unit × Wd) :=
  if v1 < (0 : Int32) then
  K50 w
  else
  bd (f_X4_isSameStand N o v1 (w.1 o 6) w) fun x3 w4 =>
  if x3 = (0 : Int32) then
  f_X4_countTimes_44 N o R K50 v1 w4
  else
  lw (wdI w4 o 8 ((w4.1 o 8) + (1 : Int32))) fun w5 =>
  lw (wdI w5 o 5 v1) fun w6 =>
  f_X4_countTimes_44 N o R K50 v1 w6
set_option maxRecDepth 20000 in
theorem sb_X4_countTimes_10 {E : Ev} (hL : LX E) {o : Nat} (ho : okP o = true) {R : Int32 → Wd → Option (Unit × Wd)} (hR : ∀ (v1 : Int32) (w : Wd), Sim E m_X4_countTimes rV 10 [(0, .ref (Ea E o)), (1, .int v1)] [] w (R v1 w)) {K50 : Wd → Option (Unit × Wd)} (hK50 : ∀ (w : Wd), Sim E m_X4_countTimes rV 50 [] [] w (K50  w)) (v1 : Int32) (w : Wd) : Sim E m_X4_countTimes rV 10 [(0, .ref (Ea E o)), (1, .int v1)] [] w (b_X4_countTimes_10 (En E) o R K50 v1 w) := by
  unfold b_X4_countTimes_10
  refine sim_iload_n 1 dX4_countTimes_10 rfl rfl ?_
  refine sim_if_lt 50 dX4_countTimes_11 rfl rfl (fun _ => ?_) (fun _ => ?_)
  · exact sim_sub [] rfl (hK50 w)
  · refine sim_aload_n 0 dX4_countTimes_14 rfl rfl ?_
    refine sim_iload_n 1 dX4_countTimes_15 rfl rfl ?_
    refine sim_aload_n 0 dX4_countTimes_16 rfl rfl ?_
    refine sim_get (k := o) (ci := 2) (j := 6) (v := .int (w.1 o 6)) (okP_in ho hL).1 (okP_kd ho).1 (by decide) fl_X4_34 (by rw [fvs_P (okP_kd ho).1]; rfl) dX4_countTimes_17 rfl ?_
    refine sim_cVi (k := o) (ci := 2) [.int v1, .int (w.1 o 6)] [] (c_X4_isSameStand hL ho v1 (w.1 o 6) w) (okP_in ho hL).1 (okP_kd ho).1 (by decide) rfl cb_X4_92 im_X4_isSameStand se_X4_isSameStand rfl rfl rfl (Nat.le_of_ble_eq_true rfl) dX4_countTimes_20 rfl (fun x3 w4 => ?_)
    refine sim_if_ne 29 dX4_countTimes_23 rfl rfl (fun _ => ?_) (fun _ => ?_)
    · refine sim_aload_n 0 dX4_countTimes_29 rfl rfl ?_
      refine sim_dup dX4_countTimes_30 rfl rfl ?_
      refine sim_get (k := o) (ci := 2) (j := 8) (v := .int (w4.1 o 8)) (okP_in ho hL).1 (okP_kd ho).1 (by decide) fl_X4_64 (by rw [fvs_P (okP_kd ho).1]; rfl) dX4_countTimes_31 rfl ?_
      refine sim_iconst (1 : Int32) dX4_countTimes_34 rfl rfl ?_
      refine sim_iadd dX4_countTimes_35 rfl ?_
      refine sim_put (k := o) (ci := 2) (j := 8) (okP_in ho hL).1 (okP_kd ho).1 (by decide) fp_X4_64 rfl rfl (st_P_8 (okP_kd ho).1 _ _ _) (by rw [fvs_P (okP_kd ho).1]; exact Nat.le_of_ble_eq_true rfl) dX4_countTimes_36 rfl ?_
      refine sim_lw (fun w5 => ?_)
      refine sim_aload_n 0 dX4_countTimes_39 rfl rfl ?_
      refine sim_iload_n 1 dX4_countTimes_40 rfl rfl ?_
      refine sim_put (k := o) (ci := 2) (j := 5) (okP_in ho hL).1 (okP_kd ho).1 (by decide) fp_X4_70 rfl rfl (st_P_5 (okP_kd ho).1 _ _ _) (by rw [fvs_P (okP_kd ho).1]; exact Nat.le_of_ble_eq_true rfl) dX4_countTimes_41 rfl ?_
      refine sim_lw (fun w6 => ?_)
      exact sim_sub [0, 1] rfl (sf_X4_countTimes_44 hL ho hR hK50 v1 w6)
    · refine sim_goto (q := 44) dX4_countTimes_26 rfl ?_
      exact sim_sub [0, 1] rfl (sf_X4_countTimes_44 hL ho hR hK50 v1 w4)
def l_X4_countTimes_10 (N : Nat) (o : Nat) (K50 : Wd → Option (Unit × Wd)) (n : Nat) : Int32 → Wd → Option (Unit × Wd) := itr (fun _ _ => none) (fun R => b_X4_countTimes_10 N o R K50) n
set_option maxRecDepth 20000 in
theorem sl_X4_countTimes_10 {E : Ev} (hL : LX E) {o : Nat} (ho : okP o = true) {K50 : Wd → Option (Unit × Wd)} (hK50 : ∀ (w : Wd), Sim E m_X4_countTimes rV 50 [] [] w (K50  w)) : ∀ (n : Nat) (v1 : Int32) (w : Wd), Sim E m_X4_countTimes rV 10 [(0, .ref (Ea E o)), (1, .int v1)] [] w (l_X4_countTimes_10 (En E) o K50 n v1 w) := by
  intro n
  induction n with
  | zero => intros; exact sim_none
  | succ n ih => intros; exact sb_X4_countTimes_10 hL ho (R := l_X4_countTimes_10 (En E) o K50 n) ih hK50 _ _
def f_X4_countTimes_50 (N : Nat) (o : Nat) (w : Wd) : Option (Unit × Wd) :=
  some ((), w)
set_option maxRecDepth 20000 in
theorem sf_X4_countTimes_50 {E : Ev} (hL : LX E) {o : Nat} (ho : okP o = true) (w : Wd) : Sim E m_X4_countTimes rV 50 [] [] w (f_X4_countTimes_50 (En E) o w) := by
  unfold f_X4_countTimes_50
  exact sim_vret rfl dX4_countTimes_50
def f_X4_countTimes (N : Nat) (o : Nat) (w : Wd) : Option (Unit × Wd) :=
  lw (wdI w o 8 (0 : Int32)) fun w1 =>
  lt (w1.1 o 6) fun x2 =>
  l_X4_countTimes_10 N o (f_X4_countTimes_50 N o) FU x2 w1
set_option maxRecDepth 20000 in
theorem c_X4_countTimes {E : Ev} (hL : LX E) {o : Nat} (ho : okP o = true) (w : Wd) : Ct E m_X4_countTimes yX4_countTimes rV [.ref (Ea E o)] w (f_X4_countTimes (En E) o w) := by
  refine Ct.of (by decide) ⟨rfl, rfl⟩ (Nat.le_of_ble_eq_true rfl) ?_
  show Sim E m_X4_countTimes rV 0 [(0, .ref (Ea E o))] [] w (f_X4_countTimes (En E) o w)
  unfold f_X4_countTimes
  refine sim_aload_n 0 dX4_countTimes_0 rfl rfl ?_
  refine sim_iconst (0 : Int32) dX4_countTimes_1 rfl rfl ?_
  refine sim_put (k := o) (ci := 2) (j := 8) (okP_in ho hL).1 (okP_kd ho).1 (by decide) fp_X4_64 rfl rfl (st_P_8 (okP_kd ho).1 _ _ _) (by rw [fvs_P (okP_kd ho).1]; exact Nat.le_of_ble_eq_true rfl) dX4_countTimes_2 rfl ?_
  refine sim_lw (fun w1 => ?_)
  refine sim_aload_n 0 dX4_countTimes_5 rfl rfl ?_
  refine sim_get (k := o) (ci := 2) (j := 6) (v := .int (w1.1 o 6)) (okP_in ho hL).1 (okP_kd ho).1 (by decide) fl_X4_34 (by rw [fvs_P (okP_kd ho).1]; rfl) dX4_countTimes_6 rfl ?_
  refine sim_lt (fun x2 => ?_)
  refine sim_istore_n [(1, .int x2), (0, .ref (Ea E o))] dX4_countTimes_9 (Nat.le_of_ble_eq_true rfl) rfl rfl ?_
  exact sim_sub [1, 0] rfl (sl_X4_countTimes_10 hL ho (sf_X4_countTimes_50 hL ho) FU x2 w1)
def b_X4_keepStand_10 (N : Nat) (o : Nat) (R : Int32 → Int32 → Wd → Option (Unit × Wd)) (K37 : Int32 → Wd → Option (Unit × Wd)) (v1 : Int32) (v2 : Int32) (w : Wd) : Option (Unit × Wd) :=
  if (5 : Int32) ≤ v2 then
  K37 v1 w
  else
  bd (f_X4_packedFields N o ((10 : Int32) * v2) w) fun x2 w3 =>
  if inb (v1 + v2) 2107 = true then
  lw (wdL w3 (o + 3) (Int32.toNatClampNeg (v1 + v2)) x2) fun w4 =>
  R v1 (v2 + (1 : Int32)) w4
  else none
set_option maxRecDepth 20000 in
theorem sb_X4_keepStand_10 {E : Ev} (hL : LX E) {o : Nat} (ho : okP o = true) {R : Int32 → Int32 → Wd → Option (Unit × Wd)} (hR : ∀ (v1 : Int32) (v2 : Int32) (w : Wd), Sim E m_X4_keepStand rV 10 [(0, .ref (Ea E o)), (1, .int v1), (2, .int v2)] [] w (R v1 v2 w)) {K37 : Int32 → Wd → Option (Unit × Wd)} (hK37 : ∀ (v1 : Int32) (w : Wd), Sim E m_X4_keepStand rV 37 [(0, .ref (Ea E o)), (1, .int v1)] [] w (K37 v1 w)) (v1 : Int32) (v2 : Int32) (w : Wd) : Sim E m_X4_keepStand rV 10 [(0, .ref (Ea E o)), (1, .int v1), (2, .int v2)] [] w (b_X4_keepStand_10 (En E) o R K37 v1 v2 w) := by
  unfold b_X4_keepStand_10
  refine sim_iload_n 2 dX4_keepStand_10 rfl rfl ?_
  refine sim_iconst (5 : Int32) dX4_keepStand_11 rfl rfl ?_
  refine sim_icmp_ge 37 dX4_keepStand_12 rfl rfl (fun _ => ?_) (fun _ => ?_)
  · exact sim_sub [0, 1] rfl (hK37 v1 w)
  · refine sim_aload_n 0 dX4_keepStand_15 rfl rfl ?_
    refine sim_get (k := o) (ci := 2) (j := 3) (v := .ref (Ea E (o + 3))) (okP_in ho hL).1 (okP_kd ho).1 (by decide) fl_X4_17 (by rw [fvs_P (okP_kd ho).1]; rfl) dX4_keepStand_16 rfl ?_
    refine sim_iload_n 1 dX4_keepStand_19 rfl rfl ?_
    refine sim_iload_n 2 dX4_keepStand_20 rfl rfl ?_
    refine sim_iadd dX4_keepStand_21 rfl ?_
    refine sim_aload_n 0 dX4_keepStand_22 rfl rfl ?_
    refine sim_bipush (10 : Int32) dX4_keepStand_23 rfl rfl ?_
    refine sim_iload_n 2 dX4_keepStand_25 rfl rfl ?_
    refine sim_imul dX4_keepStand_26 rfl ?_
    refine sim_cVj (k := o) (ci := 2) [.int ((10 : Int32) * v2)] [.int (v1 + v2), .ref (Ea E (o + 3))] (c_X4_packedFields hL ho ((10 : Int32) * v2) w) (okP_in ho hL).1 (okP_kd ho).1 (by decide) rfl cb_X4_73 im_X4_packedFields se_X4_packedFields rfl rfl rfl (Nat.le_of_ble_eq_true rfl) dX4_keepStand_27 rfl (fun x2 w3 => ?_)
    refine sim_lastore (k := (o + 3)) (okP_in ho hL).2.2.2 (okP_kd ho).2.2.2 (okP_ln ho _).2.2 dX4_keepStand_30 rfl ?_
    refine sim_lw (fun w4 => ?_)
    refine sim_iinc (v2 + (1 : Int32)) 2 [(2, .int (v2 + (1 : Int32))), (0, .ref (Ea E o)), (1, .int v1)] dX4_keepStand_31 rfl rfl (Nat.le_of_ble_eq_true rfl) rfl rfl ?_
    refine sim_goto (q := 10) dX4_keepStand_34 rfl ?_
    exact sim_sub [1, 2, 0] rfl (hR v1 (v2 + (1 : Int32)) w4)
def l_X4_keepStand_10 (N : Nat) (o : Nat) (K37 : Int32 → Wd → Option (Unit × Wd)) (n : Nat) : Int32 → Int32 → Wd → Option (Unit × Wd) := itr (fun _ _ _ => none) (fun R => b_X4_keepStand_10 N o R K37) n
set_option maxRecDepth 20000 in
theorem sl_X4_keepStand_10 {E : Ev} (hL : LX E) {o : Nat} (ho : okP o = true) {K37 : Int32 → Wd → Option (Unit × Wd)} (hK37 : ∀ (v1 : Int32) (w : Wd), Sim E m_X4_keepStand rV 37 [(0, .ref (Ea E o)), (1, .int v1)] [] w (K37 v1 w)) : ∀ (n : Nat) (v1 : Int32) (v2 : Int32) (w : Wd), Sim E m_X4_keepStand rV 10 [(0, .ref (Ea E o)), (1, .int v1), (2, .int v2)] [] w (l_X4_keepStand_10 (En E) o K37 n v1 v2 w) := by
  intro n
  induction n with
  | zero => intros; exact sim_none
  | succ n ih => intros; exact sb_X4_keepStand_10 hL ho (R := l_X4_keepStand_10 (En E) o K37 n) ih hK37 _ _ _
def f_X4_keepStand_37 (N : Nat) (o : Nat) (v1 : Int32) (w : Wd) : Option (Unit × Wd) :=
  bd (f_X4_packedHand N o (0 : Int32) w) fun x5 w6 =>
  if inb (v1 + (5 : Int32)) 2107 = true then
  lw (wdL w6 (o + 3) (Int32.toNatClampNeg (v1 + (5 : Int32))) x5) fun w7 =>
  bd (f_X4_packedHand N o (8 : Int32) w7) fun x8 w9 =>
  if inb ((v1 + (5 : Int32)) + (1 : Int32)) 2107 = true then
  lw (wdL w9 (o + 3) (Int32.toNatClampNeg ((v1 + (5 : Int32)) + (1 : Int32))) x8) fun w10 =>
  bd (f_X4_countTimes N o w10) fun _ w11 =>
  some ((), w11)
  else none
  else none
set_option maxRecDepth 20000 in
theorem sf_X4_keepStand_37 {E : Ev} (hL : LX E) {o : Nat} (ho : okP o = true) (v1 : Int32) (w : Wd) : Sim E m_X4_keepStand rV 37 [(0, .ref (Ea E o)), (1, .int v1)] [] w (f_X4_keepStand_37 (En E) o v1 w) := by
  unfold f_X4_keepStand_37
  refine sim_aload_n 0 dX4_keepStand_37 rfl rfl ?_
  refine sim_get (k := o) (ci := 2) (j := 3) (v := .ref (Ea E (o + 3))) (okP_in ho hL).1 (okP_kd ho).1 (by decide) fl_X4_17 (by rw [fvs_P (okP_kd ho).1]; rfl) dX4_keepStand_38 rfl ?_
  refine sim_iload_n 1 dX4_keepStand_41 rfl rfl ?_
  refine sim_iconst (5 : Int32) dX4_keepStand_42 rfl rfl ?_
  refine sim_iadd dX4_keepStand_43 rfl ?_
  refine sim_aload_n 0 dX4_keepStand_44 rfl rfl ?_
  refine sim_iconst (0 : Int32) dX4_keepStand_45 rfl rfl ?_
  refine sim_cVj (k := o) (ci := 2) [.int (0 : Int32)] [.int (v1 + (5 : Int32)), .ref (Ea E (o + 3))] (c_X4_packedHand hL ho (0 : Int32) w) (okP_in ho hL).1 (okP_kd ho).1 (by decide) rfl cb_X4_77 im_X4_packedHand se_X4_packedHand rfl rfl rfl (Nat.le_of_ble_eq_true rfl) dX4_keepStand_46 rfl (fun x5 w6 => ?_)
  refine sim_lastore (k := (o + 3)) (okP_in ho hL).2.2.2 (okP_kd ho).2.2.2 (okP_ln ho _).2.2 dX4_keepStand_49 rfl ?_
  refine sim_lw (fun w7 => ?_)
  refine sim_aload_n 0 dX4_keepStand_50 rfl rfl ?_
  refine sim_get (k := o) (ci := 2) (j := 3) (v := .ref (Ea E (o + 3))) (okP_in ho hL).1 (okP_kd ho).1 (by decide) fl_X4_17 (by rw [fvs_P (okP_kd ho).1]; rfl) dX4_keepStand_51 rfl ?_
  refine sim_iload_n 1 dX4_keepStand_54 rfl rfl ?_
  refine sim_iconst (5 : Int32) dX4_keepStand_55 rfl rfl ?_
  refine sim_iadd dX4_keepStand_56 rfl ?_
  refine sim_iconst (1 : Int32) dX4_keepStand_57 rfl rfl ?_
  refine sim_iadd dX4_keepStand_58 rfl ?_
  refine sim_aload_n 0 dX4_keepStand_59 rfl rfl ?_
  refine sim_bipush (8 : Int32) dX4_keepStand_60 rfl rfl ?_
  refine sim_cVj (k := o) (ci := 2) [.int (8 : Int32)] [.int ((v1 + (5 : Int32)) + (1 : Int32)), .ref (Ea E (o + 3))] (c_X4_packedHand hL ho (8 : Int32) w7) (okP_in ho hL).1 (okP_kd ho).1 (by decide) rfl cb_X4_77 im_X4_packedHand se_X4_packedHand rfl rfl rfl (Nat.le_of_ble_eq_true rfl) dX4_keepStand_62 rfl (fun x8 w9 => ?_)
  refine sim_lastore (k := (o + 3)) (okP_in ho hL).2.2.2 (okP_kd ho).2.2.2 (okP_ln ho _).2.2 dX4_keepStand_65 rfl ?_
  refine sim_lw (fun w10 => ?_)
  refine sim_aload_n 0 dX4_keepStand_66 rfl rfl ?_
  refine sim_cVv (k := o) (ci := 2) [] [] (c_X4_countTimes hL ho w10) (okP_in ho hL).1 (okP_kd ho).1 (by decide) rfl cb_X4_57 im_X4_countTimes se_X4_countTimes rfl rfl rfl (Nat.le_of_ble_eq_true rfl) dX4_keepStand_67 rfl (fun _ w11 => ?_)
  exact sim_vret rfl dX4_keepStand_70
def f_X4_keepStand (N : Nat) (o : Nat) (w : Wd) : Option (Unit × Wd) :=
  lt ((7 : Int32) * (w.1 o 6)) fun x1 =>
  l_X4_keepStand_10 N o (f_X4_keepStand_37 N o) FU x1 (0 : Int32) w
set_option maxRecDepth 20000 in
theorem c_X4_keepStand {E : Ev} (hL : LX E) {o : Nat} (ho : okP o = true) (w : Wd) : Ct E m_X4_keepStand yX4_keepStand rV [.ref (Ea E o)] w (f_X4_keepStand (En E) o w) := by
  refine Ct.of (by decide) ⟨rfl, rfl⟩ (Nat.le_of_ble_eq_true rfl) ?_
  show Sim E m_X4_keepStand rV 0 [(0, .ref (Ea E o))] [] w (f_X4_keepStand (En E) o w)
  unfold f_X4_keepStand
  refine sim_bipush (7 : Int32) dX4_keepStand_0 rfl rfl ?_
  refine sim_aload_n 0 dX4_keepStand_2 rfl rfl ?_
  refine sim_get (k := o) (ci := 2) (j := 6) (v := .int (w.1 o 6)) (okP_in ho hL).1 (okP_kd ho).1 (by decide) fl_X4_34 (by rw [fvs_P (okP_kd ho).1]; rfl) dX4_keepStand_3 rfl ?_
  refine sim_imul dX4_keepStand_6 rfl ?_
  refine sim_lt (fun x1 => ?_)
  refine sim_istore_n [(1, .int x1), (0, .ref (Ea E o))] dX4_keepStand_7 (Nat.le_of_ble_eq_true rfl) rfl rfl ?_
  refine sim_iconst (0 : Int32) dX4_keepStand_8 rfl rfl ?_
  refine sim_istore_n [(2, .int (0 : Int32)), (1, .int x1), (0, .ref (Ea E o))] dX4_keepStand_9 (Nat.le_of_ble_eq_true rfl) rfl rfl ?_
  exact sim_sub [2, 1, 0] rfl (sl_X4_keepStand_10 hL ho (sf_X4_keepStand_37 hL ho) FU x1 (0 : Int32) w)
def f_X4_begin (N : Nat) (o : Nat) (w : Wd) : Option (Unit × Wd) :=
  lw (wdI w o 4 (w.1 22 7)) fun w1 =>
  lw (wdI w1 o 6 (0 : Int32)) fun w2 =>
  lw (wdI w2 o 7 (0 : Int32)) fun w3 =>
  bd (f_X4_keepStand N o w3) fun _ w4 =>
  some ((), w4)
set_option maxRecDepth 20000 in
theorem c_X4_begin {E : Ev} (hL : LX E) {o : Nat} (ho : okP o = true) (w : Wd) : Ct E m_X4_begin yX4_begin rV [.ref (Ea E o)] w (f_X4_begin (En E) o w) := by
  refine Ct.of (by decide) ⟨rfl, rfl⟩ (Nat.le_of_ble_eq_true rfl) ?_
  show Sim E m_X4_begin rV 0 [(0, .ref (Ea E o))] [] w (f_X4_begin (En E) o w)
  unfold f_X4_begin
  refine sim_aload_n 0 dX4_begin_0 rfl rfl ?_
  refine sim_aload_n 0 dX4_begin_1 rfl rfl ?_
  refine sim_get (k := o) (ci := 2) (j := 0) (v := .ref (Ea E 22)) (okP_in ho hL).1 (okP_kd ho).1 (by decide) fl_X4_21 (by rw [fvs_P (okP_kd ho).1]; rfl) dX4_begin_2 rfl ?_
  refine sim_get (k := 22) (ci := 4) (j := 7) (v := .int (w.1 22 7)) (hL.1 22 rfl) rfl (by decide) fl_X4_25 rfl dX4_begin_5 rfl ?_
  refine sim_put (k := o) (ci := 2) (j := 4) (okP_in ho hL).1 (okP_kd ho).1 (by decide) fp_X4_31 rfl rfl (st_P_4 (okP_kd ho).1 _ _ _) (by rw [fvs_P (okP_kd ho).1]; exact Nat.le_of_ble_eq_true rfl) dX4_begin_8 rfl ?_
  refine sim_lw (fun w1 => ?_)
  refine sim_aload_n 0 dX4_begin_11 rfl rfl ?_
  refine sim_iconst (0 : Int32) dX4_begin_12 rfl rfl ?_
  refine sim_put (k := o) (ci := 2) (j := 6) (okP_in ho hL).1 (okP_kd ho).1 (by decide) fp_X4_34 rfl rfl (st_P_6 (okP_kd ho).1 _ _ _) (by rw [fvs_P (okP_kd ho).1]; exact Nat.le_of_ble_eq_true rfl) dX4_begin_13 rfl ?_
  refine sim_lw (fun w2 => ?_)
  refine sim_aload_n 0 dX4_begin_16 rfl rfl ?_
  refine sim_iconst (0 : Int32) dX4_begin_17 rfl rfl ?_
  refine sim_put (k := o) (ci := 2) (j := 7) (okP_in ho hL).1 (okP_kd ho).1 (by decide) fp_X4_37 rfl rfl (st_P_7 (okP_kd ho).1 _ _ _) (by rw [fvs_P (okP_kd ho).1]; exact Nat.le_of_ble_eq_true rfl) dX4_begin_18 rfl ?_
  refine sim_lw (fun w3 => ?_)
  refine sim_aload_n 0 dX4_begin_21 rfl rfl ?_
  refine sim_cVv (k := o) (ci := 2) [] [] (c_X4_keepStand hL ho w3) (okP_in ho hL).1 (okP_kd ho).1 (by decide) rfl cb_X4_40 im_X4_keepStand se_X4_keepStand rfl rfl rfl (Nat.le_of_ble_eq_true rfl) dX4_begin_22 rfl (fun _ w4 => ?_)
  exact sim_vret rfl dX4_begin_25
def f_X4_repeat (N : Nat) (o : Nat) (w : Wd) : Option (Unit × Wd) :=
  if inb (w.1 o 6) 300 = true then
  bd (f_X6_apply N (w.1 (o + 1) (Int32.toNatClampNeg (w.1 o 6))) w) fun _ w1 =>
  bd (f_X6_inCheck N (w1.1 22 7) w1) fun x2 w3 =>
  if inb (w1.1 o 6) 300 = true then
  lw (wdI w3 (o + 2) (Int32.toNatClampNeg (w1.1 o 6)) (vp_nar .boolean x2)) fun w4 =>
  lw (wdI w4 o 6 ((w4.1 o 6) + (1 : Int32))) fun w5 =>
  bd (f_X4_keepStand N o w5) fun _ w6 =>
  some ((), w6)
  else none
  else none
set_option maxRecDepth 20000 in
theorem c_X4_repeat {E : Ev} (hL : LX E) {o : Nat} (ho : okP o = true) (w : Wd) : Ct E m_X4_repeat yX4_repeat rV [.ref (Ea E o)] w (f_X4_repeat (En E) o w) := by
  refine Ct.of (by decide) ⟨rfl, rfl⟩ (Nat.le_of_ble_eq_true rfl) ?_
  show Sim E m_X4_repeat rV 0 [(0, .ref (Ea E o))] [] w (f_X4_repeat (En E) o w)
  unfold f_X4_repeat
  refine sim_aload_n 0 dX4_repeat_0 rfl rfl ?_
  refine sim_get (k := o) (ci := 2) (j := 0) (v := .ref (Ea E 22)) (okP_in ho hL).1 (okP_kd ho).1 (by decide) fl_X4_21 (by rw [fvs_P (okP_kd ho).1]; rfl) dX4_repeat_1 rfl ?_
  refine sim_aload_n 0 dX4_repeat_4 rfl rfl ?_
  refine sim_get (k := o) (ci := 2) (j := 1) (v := .ref (Ea E (o + 1))) (okP_in ho hL).1 (okP_kd ho).1 (by decide) fl_X4_9 (by rw [fvs_P (okP_kd ho).1]; rfl) dX4_repeat_5 rfl ?_
  refine sim_aload_n 0 dX4_repeat_8 rfl rfl ?_
  refine sim_get (k := o) (ci := 2) (j := 6) (v := .int (w.1 o 6)) (okP_in ho hL).1 (okP_kd ho).1 (by decide) fl_X4_34 (by rw [fvs_P (okP_kd ho).1]; rfl) dX4_repeat_9 rfl ?_
  refine sim_iaload (k := (o + 1)) (okP_in ho hL).2.1 (okP_kd ho).2.1 (okP_ln ho _).1 dX4_repeat_12 rfl ?_
  refine sim_cVv (k := 22) (ci := 4) [.int (w.1 (o + 1) (Int32.toNatClampNeg (w.1 o 6)))] [] (c_X6_apply hL (w.1 (o + 1) (Int32.toNatClampNeg (w.1 o 6))) w) (hL.1 22 rfl) rfl (by decide) rfl cb_X4_46 im_X6_apply se_X6_apply rfl rfl rfl (Nat.le_of_ble_eq_true rfl) dX4_repeat_13 rfl (fun _ w1 => ?_)
  refine sim_aload_n 0 dX4_repeat_16 rfl rfl ?_
  refine sim_get (k := o) (ci := 2) (j := 2) (v := .ref (Ea E (o + 2))) (okP_in ho hL).1 (okP_kd ho).1 (by decide) fl_X4_13 (by rw [fvs_P (okP_kd ho).1]; rfl) dX4_repeat_17 rfl ?_
  refine sim_aload_n 0 dX4_repeat_20 rfl rfl ?_
  refine sim_get (k := o) (ci := 2) (j := 6) (v := .int (w1.1 o 6)) (okP_in ho hL).1 (okP_kd ho).1 (by decide) fl_X4_34 (by rw [fvs_P (okP_kd ho).1]; rfl) dX4_repeat_21 rfl ?_
  refine sim_aload_n 0 dX4_repeat_24 rfl rfl ?_
  refine sim_get (k := o) (ci := 2) (j := 0) (v := .ref (Ea E 22)) (okP_in ho hL).1 (okP_kd ho).1 (by decide) fl_X4_21 (by rw [fvs_P (okP_kd ho).1]; rfl) dX4_repeat_25 rfl ?_
  refine sim_aload_n 0 dX4_repeat_28 rfl rfl ?_
  refine sim_get (k := o) (ci := 2) (j := 0) (v := .ref (Ea E 22)) (okP_in ho hL).1 (okP_kd ho).1 (by decide) fl_X4_21 (by rw [fvs_P (okP_kd ho).1]; rfl) dX4_repeat_29 rfl ?_
  refine sim_get (k := 22) (ci := 4) (j := 7) (v := .int (w1.1 22 7)) (hL.1 22 rfl) rfl (by decide) fl_X4_25 rfl dX4_repeat_32 rfl ?_
  refine sim_cVi (k := 22) (ci := 4) [.int (w1.1 22 7)] [.int (w1.1 o 6), .ref (Ea E (o + 2))] (c_X6_inCheck hL (w1.1 22 7) w1) (hL.1 22 rfl) rfl (by decide) rfl cb_X4_50 im_X6_inCheck se_X6_inCheck rfl rfl rfl (Nat.le_of_ble_eq_true rfl) dX4_repeat_35 rfl (fun x2 w3 => ?_)
  refine sim_bastore (k := (o + 2)) (okP_in ho hL).2.2.1 (okP_kd ho).2.2.1 (okP_ln ho _).2.1 dX4_repeat_38 rfl ?_
  refine sim_lw (fun w4 => ?_)
  refine sim_aload_n 0 dX4_repeat_39 rfl rfl ?_
  refine sim_dup dX4_repeat_40 rfl rfl ?_
  refine sim_get (k := o) (ci := 2) (j := 6) (v := .int (w4.1 o 6)) (okP_in ho hL).1 (okP_kd ho).1 (by decide) fl_X4_34 (by rw [fvs_P (okP_kd ho).1]; rfl) dX4_repeat_41 rfl ?_
  refine sim_iconst (1 : Int32) dX4_repeat_44 rfl rfl ?_
  refine sim_iadd dX4_repeat_45 rfl ?_
  refine sim_put (k := o) (ci := 2) (j := 6) (okP_in ho hL).1 (okP_kd ho).1 (by decide) fp_X4_34 rfl rfl (st_P_6 (okP_kd ho).1 _ _ _) (by rw [fvs_P (okP_kd ho).1]; exact Nat.le_of_ble_eq_true rfl) dX4_repeat_46 rfl ?_
  refine sim_lw (fun w5 => ?_)
  refine sim_aload_n 0 dX4_repeat_49 rfl rfl ?_
  refine sim_cVv (k := o) (ci := 2) [] [] (c_X4_keepStand hL ho w5) (okP_in ho hL).1 (okP_kd ho).1 (by decide) rfl cb_X4_40 im_X4_keepStand se_X4_keepStand rfl rfl rfl (Nat.le_of_ble_eq_true rfl) dX4_repeat_50 rfl (fun _ w6 => ?_)
  exact sim_vret rfl dX4_repeat_53
def f_X4_advance (N : Nat) (o : Nat) (v1 : Int32) (w : Wd) : Option (Unit × Wd) :=
  if inb (w.1 o 6) 300 = true then
  lw (wdI w (o + 1) (Int32.toNatClampNeg (w.1 o 6)) v1) fun w1 =>
  lw (wdI w1 o 7 ((w1.1 o 6) + (1 : Int32))) fun w2 =>
  bd (f_X4_repeat N o w2) fun _ w3 =>
  some ((), w3)
  else none
set_option maxRecDepth 20000 in
theorem c_X4_advance {E : Ev} (hL : LX E) {o : Nat} (ho : okP o = true) (v1 : Int32) (w : Wd) : Ct E m_X4_advance yX4_advance rV [.ref (Ea E o), .int v1] w (f_X4_advance (En E) o v1 w) := by
  refine Ct.of (by decide) ⟨rfl, rfl⟩ (Nat.le_of_ble_eq_true rfl) ?_
  show Sim E m_X4_advance rV 0 [(0, .ref (Ea E o)), (1, .int v1)] [] w (f_X4_advance (En E) o v1 w)
  unfold f_X4_advance
  refine sim_aload_n 0 dX4_advance_0 rfl rfl ?_
  refine sim_get (k := o) (ci := 2) (j := 1) (v := .ref (Ea E (o + 1))) (okP_in ho hL).1 (okP_kd ho).1 (by decide) fl_X4_9 (by rw [fvs_P (okP_kd ho).1]; rfl) dX4_advance_1 rfl ?_
  refine sim_aload_n 0 dX4_advance_4 rfl rfl ?_
  refine sim_get (k := o) (ci := 2) (j := 6) (v := .int (w.1 o 6)) (okP_in ho hL).1 (okP_kd ho).1 (by decide) fl_X4_34 (by rw [fvs_P (okP_kd ho).1]; rfl) dX4_advance_5 rfl ?_
  refine sim_iload_n 1 dX4_advance_8 rfl rfl ?_
  refine sim_iastore (k := (o + 1)) (okP_in ho hL).2.1 (okP_kd ho).2.1 (okP_ln ho _).1 dX4_advance_9 rfl ?_
  refine sim_lw (fun w1 => ?_)
  refine sim_aload_n 0 dX4_advance_10 rfl rfl ?_
  refine sim_aload_n 0 dX4_advance_11 rfl rfl ?_
  refine sim_get (k := o) (ci := 2) (j := 6) (v := .int (w1.1 o 6)) (okP_in ho hL).1 (okP_kd ho).1 (by decide) fl_X4_34 (by rw [fvs_P (okP_kd ho).1]; rfl) dX4_advance_12 rfl ?_
  refine sim_iconst (1 : Int32) dX4_advance_15 rfl rfl ?_
  refine sim_iadd dX4_advance_16 rfl ?_
  refine sim_put (k := o) (ci := 2) (j := 7) (okP_in ho hL).1 (okP_kd ho).1 (by decide) fp_X4_37 rfl rfl (st_P_7 (okP_kd ho).1 _ _ _) (by rw [fvs_P (okP_kd ho).1]; exact Nat.le_of_ble_eq_true rfl) dX4_advance_17 rfl ?_
  refine sim_lw (fun w2 => ?_)
  refine sim_aload_n 0 dX4_advance_20 rfl rfl ?_
  refine sim_cVv (k := o) (ci := 2) [] [] (c_X4_repeat hL ho w2) (okP_in ho hL).1 (okP_kd ho).1 (by decide) rfl cb_X4_43 im_X4_repeat se_X4_repeat rfl rfl rfl (Nat.le_of_ble_eq_true rfl) dX4_advance_21 rfl (fun _ w3 => ?_)
  exact sim_vret rfl dX4_advance_24
def f_X4_withdraw (N : Nat) (o : Nat) (w : Wd) : Option (Unit × Wd) :=
  lw (wdI w o 6 ((w.1 o 6) - (1 : Int32))) fun w1 =>
  if inb (w1.1 o 6) 300 = true then
  bd (f_X6_revert N (w1.1 (o + 1) (Int32.toNatClampNeg (w1.1 o 6))) w1) fun _ w2 =>
  bd (f_X4_countTimes N o w2) fun _ w3 =>
  some ((), w3)
  else none
set_option maxRecDepth 20000 in
theorem c_X4_withdraw {E : Ev} (hL : LX E) {o : Nat} (ho : okP o = true) (w : Wd) : Ct E m_X4_withdraw yX4_withdraw rV [.ref (Ea E o)] w (f_X4_withdraw (En E) o w) := by
  refine Ct.of (by decide) ⟨rfl, rfl⟩ (Nat.le_of_ble_eq_true rfl) ?_
  show Sim E m_X4_withdraw rV 0 [(0, .ref (Ea E o))] [] w (f_X4_withdraw (En E) o w)
  unfold f_X4_withdraw
  refine sim_aload_n 0 dX4_withdraw_0 rfl rfl ?_
  refine sim_dup dX4_withdraw_1 rfl rfl ?_
  refine sim_get (k := o) (ci := 2) (j := 6) (v := .int (w.1 o 6)) (okP_in ho hL).1 (okP_kd ho).1 (by decide) fl_X4_34 (by rw [fvs_P (okP_kd ho).1]; rfl) dX4_withdraw_2 rfl ?_
  refine sim_iconst (1 : Int32) dX4_withdraw_5 rfl rfl ?_
  refine sim_isub dX4_withdraw_6 rfl ?_
  refine sim_put (k := o) (ci := 2) (j := 6) (okP_in ho hL).1 (okP_kd ho).1 (by decide) fp_X4_34 rfl rfl (st_P_6 (okP_kd ho).1 _ _ _) (by rw [fvs_P (okP_kd ho).1]; exact Nat.le_of_ble_eq_true rfl) dX4_withdraw_7 rfl ?_
  refine sim_lw (fun w1 => ?_)
  refine sim_aload_n 0 dX4_withdraw_10 rfl rfl ?_
  refine sim_get (k := o) (ci := 2) (j := 0) (v := .ref (Ea E 22)) (okP_in ho hL).1 (okP_kd ho).1 (by decide) fl_X4_21 (by rw [fvs_P (okP_kd ho).1]; rfl) dX4_withdraw_11 rfl ?_
  refine sim_aload_n 0 dX4_withdraw_14 rfl rfl ?_
  refine sim_get (k := o) (ci := 2) (j := 1) (v := .ref (Ea E (o + 1))) (okP_in ho hL).1 (okP_kd ho).1 (by decide) fl_X4_9 (by rw [fvs_P (okP_kd ho).1]; rfl) dX4_withdraw_15 rfl ?_
  refine sim_aload_n 0 dX4_withdraw_18 rfl rfl ?_
  refine sim_get (k := o) (ci := 2) (j := 6) (v := .int (w1.1 o 6)) (okP_in ho hL).1 (okP_kd ho).1 (by decide) fl_X4_34 (by rw [fvs_P (okP_kd ho).1]; rfl) dX4_withdraw_19 rfl ?_
  refine sim_iaload (k := (o + 1)) (okP_in ho hL).2.1 (okP_kd ho).2.1 (okP_ln ho _).1 dX4_withdraw_22 rfl ?_
  refine sim_cVv (k := 22) (ci := 4) [.int (w1.1 (o + 1) (Int32.toNatClampNeg (w1.1 o 6)))] [] (c_X6_revert hL (w1.1 (o + 1) (Int32.toNatClampNeg (w1.1 o 6))) w1) (hL.1 22 rfl) rfl (by decide) rfl cb_X4_54 im_X6_revert se_X6_revert rfl rfl rfl (Nat.le_of_ble_eq_true rfl) dX4_withdraw_23 rfl (fun _ w2 => ?_)
  refine sim_aload_n 0 dX4_withdraw_26 rfl rfl ?_
  refine sim_cVv (k := o) (ci := 2) [] [] (c_X4_countTimes hL ho w2) (okP_in ho hL).1 (okP_kd ho).1 (by decide) rfl cb_X4_57 im_X4_countTimes se_X4_countTimes rfl rfl rfl (Nat.le_of_ble_eq_true rfl) dX4_withdraw_27 rfl (fun _ w3 => ?_)
  exact sim_vret rfl dX4_withdraw_30
def b_X4_leave_7 (N : Nat) (o : Nat) (R : Int32 → Wd → Option (Unit × Wd)) (K30 : Wd → Option (Unit × Wd)) (v1 : Int32) (w : Wd) : Option (Unit × Wd) :=
  if v1 < (0 : Int32) then
  K30 w
  else
  if inb v1 300 = true then
  bd (f_X6_revert N (w.1 (o + 1) (Int32.toNatClampNeg v1)) w) fun _ w2 =>
  R (v1 + (-1 : Int32)) w2
  else none
set_option maxRecDepth 20000 in
theorem sb_X4_leave_7 {E : Ev} (hL : LX E) {o : Nat} (ho : okP o = true) {R : Int32 → Wd → Option (Unit × Wd)} (hR : ∀ (v1 : Int32) (w : Wd), Sim E m_X4_leave rV 7 [(0, .ref (Ea E o)), (1, .int v1)] [] w (R v1 w)) {K30 : Wd → Option (Unit × Wd)} (hK30 : ∀ (w : Wd), Sim E m_X4_leave rV 30 [] [] w (K30  w)) (v1 : Int32) (w : Wd) : Sim E m_X4_leave rV 7 [(0, .ref (Ea E o)), (1, .int v1)] [] w (b_X4_leave_7 (En E) o R K30 v1 w) := by
  unfold b_X4_leave_7
  refine sim_iload_n 1 dX4_leave_7 rfl rfl ?_
  refine sim_if_lt 30 dX4_leave_8 rfl rfl (fun _ => ?_) (fun _ => ?_)
  · exact sim_sub [] rfl (hK30 w)
  · refine sim_aload_n 0 dX4_leave_11 rfl rfl ?_
    refine sim_get (k := o) (ci := 2) (j := 0) (v := .ref (Ea E 22)) (okP_in ho hL).1 (okP_kd ho).1 (by decide) fl_X4_21 (by rw [fvs_P (okP_kd ho).1]; rfl) dX4_leave_12 rfl ?_
    refine sim_aload_n 0 dX4_leave_15 rfl rfl ?_
    refine sim_get (k := o) (ci := 2) (j := 1) (v := .ref (Ea E (o + 1))) (okP_in ho hL).1 (okP_kd ho).1 (by decide) fl_X4_9 (by rw [fvs_P (okP_kd ho).1]; rfl) dX4_leave_16 rfl ?_
    refine sim_iload_n 1 dX4_leave_19 rfl rfl ?_
    refine sim_iaload (k := (o + 1)) (okP_in ho hL).2.1 (okP_kd ho).2.1 (okP_ln ho _).1 dX4_leave_20 rfl ?_
    refine sim_cVv (k := 22) (ci := 4) [.int (w.1 (o + 1) (Int32.toNatClampNeg v1))] [] (c_X6_revert hL (w.1 (o + 1) (Int32.toNatClampNeg v1)) w) (hL.1 22 rfl) rfl (by decide) rfl cb_X4_54 im_X6_revert se_X6_revert rfl rfl rfl (Nat.le_of_ble_eq_true rfl) dX4_leave_21 rfl (fun _ w2 => ?_)
    refine sim_iinc (v1 + (-1 : Int32)) 1 [(1, .int (v1 + (-1 : Int32))), (0, .ref (Ea E o))] dX4_leave_24 rfl rfl (Nat.le_of_ble_eq_true rfl) rfl rfl ?_
    refine sim_goto (q := 7) dX4_leave_27 rfl ?_
    exact sim_sub [1, 0] rfl (hR (v1 + (-1 : Int32)) w2)
def l_X4_leave_7 (N : Nat) (o : Nat) (K30 : Wd → Option (Unit × Wd)) (n : Nat) : Int32 → Wd → Option (Unit × Wd) := itr (fun _ _ => none) (fun R => b_X4_leave_7 N o R K30) n
set_option maxRecDepth 20000 in
theorem sl_X4_leave_7 {E : Ev} (hL : LX E) {o : Nat} (ho : okP o = true) {K30 : Wd → Option (Unit × Wd)} (hK30 : ∀ (w : Wd), Sim E m_X4_leave rV 30 [] [] w (K30  w)) : ∀ (n : Nat) (v1 : Int32) (w : Wd), Sim E m_X4_leave rV 7 [(0, .ref (Ea E o)), (1, .int v1)] [] w (l_X4_leave_7 (En E) o K30 n v1 w) := by
  intro n
  induction n with
  | zero => intros; exact sim_none
  | succ n ih => intros; exact sb_X4_leave_7 hL ho (R := l_X4_leave_7 (En E) o K30 n) ih hK30 _ _
def f_X4_leave_30 (N : Nat) (o : Nat) (w : Wd) : Option (Unit × Wd) :=
  some ((), w)
set_option maxRecDepth 20000 in
theorem sf_X4_leave_30 {E : Ev} (hL : LX E) {o : Nat} (ho : okP o = true) (w : Wd) : Sim E m_X4_leave rV 30 [] [] w (f_X4_leave_30 (En E) o w) := by
  unfold f_X4_leave_30
  exact sim_vret rfl dX4_leave_30
def f_X4_leave (N : Nat) (o : Nat) (w : Wd) : Option (Unit × Wd) :=
  lt ((w.1 o 6) - (1 : Int32)) fun x1 =>
  l_X4_leave_7 N o (f_X4_leave_30 N o) FU x1 w
set_option maxRecDepth 20000 in
theorem c_X4_leave {E : Ev} (hL : LX E) {o : Nat} (ho : okP o = true) (w : Wd) : Ct E m_X4_leave yX4_leave rV [.ref (Ea E o)] w (f_X4_leave (En E) o w) := by
  refine Ct.of (by decide) ⟨rfl, rfl⟩ (Nat.le_of_ble_eq_true rfl) ?_
  show Sim E m_X4_leave rV 0 [(0, .ref (Ea E o))] [] w (f_X4_leave (En E) o w)
  unfold f_X4_leave
  refine sim_aload_n 0 dX4_leave_0 rfl rfl ?_
  refine sim_get (k := o) (ci := 2) (j := 6) (v := .int (w.1 o 6)) (okP_in ho hL).1 (okP_kd ho).1 (by decide) fl_X4_34 (by rw [fvs_P (okP_kd ho).1]; rfl) dX4_leave_1 rfl ?_
  refine sim_iconst (1 : Int32) dX4_leave_4 rfl rfl ?_
  refine sim_isub dX4_leave_5 rfl ?_
  refine sim_lt (fun x1 => ?_)
  refine sim_istore_n [(1, .int x1), (0, .ref (Ea E o))] dX4_leave_6 (Nat.le_of_ble_eq_true rfl) rfl rfl ?_
  exact sim_sub [1, 0] rfl (sl_X4_leave_7 hL ho (sf_X4_leave_30 hL ho) FU x1 w)
def b_X4_resume_2 (N : Nat) (o : Nat) (R : Int32 → Wd → Option (Unit × Wd)) (K29 : Wd → Option (Unit × Wd)) (v1 : Int32) (w : Wd) : Option (Unit × Wd) :=
  if (w.1 o 6) ≤ v1 then
  K29 w
  else
  if inb v1 300 = true then
  bd (f_X6_apply N (w.1 (o + 1) (Int32.toNatClampNeg v1)) w) fun _ w1 =>
  R (v1 + (1 : Int32)) w1
  else none
set_option maxRecDepth 20000 in
theorem sb_X4_resume_2 {E : Ev} (hL : LX E) {o : Nat} (ho : okP o = true) {R : Int32 → Wd → Option (Unit × Wd)} (hR : ∀ (v1 : Int32) (w : Wd), Sim E m_X4_resume rV 2 [(0, .ref (Ea E o)), (1, .int v1)] [] w (R v1 w)) {K29 : Wd → Option (Unit × Wd)} (hK29 : ∀ (w : Wd), Sim E m_X4_resume rV 29 [] [] w (K29  w)) (v1 : Int32) (w : Wd) : Sim E m_X4_resume rV 2 [(0, .ref (Ea E o)), (1, .int v1)] [] w (b_X4_resume_2 (En E) o R K29 v1 w) := by
  unfold b_X4_resume_2
  refine sim_iload_n 1 dX4_resume_2 rfl rfl ?_
  refine sim_aload_n 0 dX4_resume_3 rfl rfl ?_
  refine sim_get (k := o) (ci := 2) (j := 6) (v := .int (w.1 o 6)) (okP_in ho hL).1 (okP_kd ho).1 (by decide) fl_X4_34 (by rw [fvs_P (okP_kd ho).1]; rfl) dX4_resume_4 rfl ?_
  refine sim_icmp_ge 29 dX4_resume_7 rfl rfl (fun _ => ?_) (fun _ => ?_)
  · exact sim_sub [] rfl (hK29 w)
  · refine sim_aload_n 0 dX4_resume_10 rfl rfl ?_
    refine sim_get (k := o) (ci := 2) (j := 0) (v := .ref (Ea E 22)) (okP_in ho hL).1 (okP_kd ho).1 (by decide) fl_X4_21 (by rw [fvs_P (okP_kd ho).1]; rfl) dX4_resume_11 rfl ?_
    refine sim_aload_n 0 dX4_resume_14 rfl rfl ?_
    refine sim_get (k := o) (ci := 2) (j := 1) (v := .ref (Ea E (o + 1))) (okP_in ho hL).1 (okP_kd ho).1 (by decide) fl_X4_9 (by rw [fvs_P (okP_kd ho).1]; rfl) dX4_resume_15 rfl ?_
    refine sim_iload_n 1 dX4_resume_18 rfl rfl ?_
    refine sim_iaload (k := (o + 1)) (okP_in ho hL).2.1 (okP_kd ho).2.1 (okP_ln ho _).1 dX4_resume_19 rfl ?_
    refine sim_cVv (k := 22) (ci := 4) [.int (w.1 (o + 1) (Int32.toNatClampNeg v1))] [] (c_X6_apply hL (w.1 (o + 1) (Int32.toNatClampNeg v1)) w) (hL.1 22 rfl) rfl (by decide) rfl cb_X4_46 im_X6_apply se_X6_apply rfl rfl rfl (Nat.le_of_ble_eq_true rfl) dX4_resume_20 rfl (fun _ w1 => ?_)
    refine sim_iinc (v1 + (1 : Int32)) 1 [(1, .int (v1 + (1 : Int32))), (0, .ref (Ea E o))] dX4_resume_23 rfl rfl (Nat.le_of_ble_eq_true rfl) rfl rfl ?_
    refine sim_goto (q := 2) dX4_resume_26 rfl ?_
    exact sim_sub [1, 0] rfl (hR (v1 + (1 : Int32)) w1)
def l_X4_resume_2 (N : Nat) (o : Nat) (K29 : Wd → Option (Unit × Wd)) (n : Nat) : Int32 → Wd → Option (Unit × Wd) := itr (fun _ _ => none) (fun R => b_X4_resume_2 N o R K29) n
set_option maxRecDepth 20000 in
theorem sl_X4_resume_2 {E : Ev} (hL : LX E) {o : Nat} (ho : okP o = true) {K29 : Wd → Option (Unit × Wd)} (hK29 : ∀ (w : Wd), Sim E m_X4_resume rV 29 [] [] w (K29  w)) : ∀ (n : Nat) (v1 : Int32) (w : Wd), Sim E m_X4_resume rV 2 [(0, .ref (Ea E o)), (1, .int v1)] [] w (l_X4_resume_2 (En E) o K29 n v1 w) := by
  intro n
  induction n with
  | zero => intros; exact sim_none
  | succ n ih => intros; exact sb_X4_resume_2 hL ho (R := l_X4_resume_2 (En E) o K29 n) ih hK29 _ _
def f_X4_resume_29 (N : Nat) (o : Nat) (w : Wd) : Option (Unit × Wd) :=
  some ((), w)
set_option maxRecDepth 20000 in
theorem sf_X4_resume_29 {E : Ev} (hL : LX E) {o : Nat} (ho : okP o = true) (w : Wd) : Sim E m_X4_resume rV 29 [] [] w (f_X4_resume_29 (En E) o w) := by
  unfold f_X4_resume_29
  exact sim_vret rfl dX4_resume_29
def f_X4_resume (N : Nat) (o : Nat) (w : Wd) : Option (Unit × Wd) :=
  l_X4_resume_2 N o (f_X4_resume_29 N o) FU (0 : Int32) w
set_option maxRecDepth 20000 in
theorem c_X4_resume {E : Ev} (hL : LX E) {o : Nat} (ho : okP o = true) (w : Wd) : Ct E m_X4_resume yX4_resume rV [.ref (Ea E o)] w (f_X4_resume (En E) o w) := by
  refine Ct.of (by decide) ⟨rfl, rfl⟩ (Nat.le_of_ble_eq_true rfl) ?_
  show Sim E m_X4_resume rV 0 [(0, .ref (Ea E o))] [] w (f_X4_resume (En E) o w)
  unfold f_X4_resume
  refine sim_iconst (0 : Int32) dX4_resume_0 rfl rfl ?_
  refine sim_istore_n [(1, .int (0 : Int32)), (0, .ref (Ea E o))] dX4_resume_1 (Nat.le_of_ble_eq_true rfl) rfl rfl ?_
  exact sim_sub [1, 0] rfl (sl_X4_resume_2 hL ho (sf_X4_resume_29 hL ho) FU (0 : Int32) w)
def b_X4_onlyChecksOf_38 (N : Nat) (o : Nat) (R : Int32 → Wd → Option (Int32 × Wd)) (K55 : Wd → Option (Int32 × Wd)) (K63 : Wd → Option (Int32 × Wd)) (v3 : Int32) (w : Wd) : Option (Int32 × Wd) :=
  if (w.1 o 6) ≤ v3 then
  K63 w
  else
  if inb v3 300 = true then
  if (w.1 (o + 2) (Int32.toNatClampNeg v3)) = (0 : Int32) then
  K55 w
  else
  R (v3 + (2 : Int32)) w
  else none
set_option maxRecDepth 20000 in
theorem sb_X4_onlyChecksOf_38 {E : Ev} (hL : LX E) {o : Nat} (ho : okP o = true) {R : Int32 → Wd → Option (Int32 × Wd)} (hR : ∀ (v3 : Int32) (w : Wd), Sim E m_X4_onlyChecksOf rI 38 [(0, .ref (Ea E o)), (3, .int v3)] [] w (R v3 w)) {K55 : Wd → Option (Int32 × Wd)} (hK55 : ∀ (w : Wd), Sim E m_X4_onlyChecksOf rI 55 [] [] w (K55  w)) {K63 : Wd → Option (Int32 × Wd)} (hK63 : ∀ (w : Wd), Sim E m_X4_onlyChecksOf rI 63 [] [] w (K63  w)) (v3 : Int32) (w : Wd) : Sim E m_X4_onlyChecksOf rI 38 [(0, .ref (Ea E o)), (3, .int v3)] [] w (b_X4_onlyChecksOf_38 (En E) o R K55 K63 v3 w) := by
  unfold b_X4_onlyChecksOf_38
  refine sim_iload_n 1 dX4_onlyChecksOf_38 rfl rfl ?_
  refine sim_aload_n 0 dX4_onlyChecksOf_39 rfl rfl ?_
  refine sim_get (k := o) (ci := 2) (j := 6) (v := .int (w.1 o 6)) (okP_in ho hL).1 (okP_kd ho).1 (by decide) fl_X4_34 (by rw [fvs_P (okP_kd ho).1]; rfl) dX4_onlyChecksOf_40 rfl ?_
  refine sim_icmp_ge 63 dX4_onlyChecksOf_43 rfl rfl (fun _ => ?_) (fun _ => ?_)
  · exact sim_sub [] rfl (hK63 w)
  · refine sim_aload_n 0 dX4_onlyChecksOf_46 rfl rfl ?_
    refine sim_get (k := o) (ci := 2) (j := 2) (v := .ref (Ea E (o + 2))) (okP_in ho hL).1 (okP_kd ho).1 (by decide) fl_X4_13 (by rw [fvs_P (okP_kd ho).1]; rfl) dX4_onlyChecksOf_47 rfl ?_
    refine sim_iload_n 1 dX4_onlyChecksOf_50 rfl rfl ?_
    refine sim_baload (k := (o + 2)) (okP_in ho hL).2.2.1 (okP_kd ho).2.2.1 (okP_ln ho _).2.1 dX4_onlyChecksOf_51 rfl ?_
    refine sim_if_ne 57 dX4_onlyChecksOf_52 rfl rfl (fun _ => ?_) (fun _ => ?_)
    · refine sim_iinc (v3 + (2 : Int32)) 1 [(3, .int (v3 + (2 : Int32))), (0, .ref (Ea E o))] dX4_onlyChecksOf_57 rfl rfl (Nat.le_of_ble_eq_true rfl) rfl rfl ?_
      refine sim_goto (q := 38) dX4_onlyChecksOf_60 rfl ?_
      exact sim_sub [1, 0] rfl (hR (v3 + (2 : Int32)) w)
    · exact sim_sub [] rfl (hK55 w)
def l_X4_onlyChecksOf_38 (N : Nat) (o : Nat) (K55 : Wd → Option (Int32 × Wd)) (K63 : Wd → Option (Int32 × Wd)) (n : Nat) : Int32 → Wd → Option (Int32 × Wd) := itr (fun _ _ => none) (fun R => b_X4_onlyChecksOf_38 N o R K55 K63) n
set_option maxRecDepth 20000 in
theorem sl_X4_onlyChecksOf_38 {E : Ev} (hL : LX E) {o : Nat} (ho : okP o = true) {K55 : Wd → Option (Int32 × Wd)} (hK55 : ∀ (w : Wd), Sim E m_X4_onlyChecksOf rI 55 [] [] w (K55  w)) {K63 : Wd → Option (Int32 × Wd)} (hK63 : ∀ (w : Wd), Sim E m_X4_onlyChecksOf rI 63 [] [] w (K63  w)) : ∀ (n : Nat) (v3 : Int32) (w : Wd), Sim E m_X4_onlyChecksOf rI 38 [(0, .ref (Ea E o)), (3, .int v3)] [] w (l_X4_onlyChecksOf_38 (En E) o K55 K63 n v3 w) := by
  intro n
  induction n with
  | zero => intros; exact sim_none
  | succ n ih => intros; exact sb_X4_onlyChecksOf_38 hL ho (R := l_X4_onlyChecksOf_38 (En E) o K55 K63 n) ih hK55 hK63 _ _
def f_X4_onlyChecksOf_55 (N : Nat) (o : Nat) (w : Wd) : Option (Int32 × Wd) :=
  if zb (0 : Int32) = true then some ((0 : Int32), w) else none
set_option maxRecDepth 20000 in
theorem sf_X4_onlyChecksOf_55 {E : Ev} (hL : LX E) {o : Nat} (ho : okP o = true) (w : Wd) : Sim E m_X4_onlyChecksOf rI 55 [] [] w (f_X4_onlyChecksOf_55 (En E) o w) := by
  unfold f_X4_onlyChecksOf_55
  refine sim_iconst (0 : Int32) dX4_onlyChecksOf_55 rfl rfl ?_
  exact sim_zret rfl dX4_onlyChecksOf_56
def f_X4_onlyChecksOf_63 (N : Nat) (o : Nat) (w : Wd) : Option (Int32 × Wd) :=
  if zb (1 : Int32) = true then some ((1 : Int32), w) else none
set_option maxRecDepth 20000 in
theorem sf_X4_onlyChecksOf_63 {E : Ev} (hL : LX E) {o : Nat} (ho : okP o = true) (w : Wd) : Sim E m_X4_onlyChecksOf rI 63 [] [] w (f_X4_onlyChecksOf_63 (En E) o w) := by
  unfold f_X4_onlyChecksOf_63
  refine sim_iconst (1 : Int32) dX4_onlyChecksOf_63 rfl rfl ?_
  exact sim_zret rfl dX4_onlyChecksOf_64
def f_X4_onlyChecksOf_35 (N : Nat) (o : Nat) (s0 : Int32) (w : Wd) : Option (Int32 × Wd) :=
  l_X4_onlyChecksOf_38 N o (f_X4_onlyChecksOf_55 N o) (f_X4_onlyChecksOf_63 N o) FU s0 w
set_option maxRecDepth 20000 in
theorem sf_X4_onlyChecksOf_35 {E : Ev} (hL : LX E) {o : Nat} (ho : okP o = true) (s0 : Int32) (w : Wd) : Sim E m_X4_onlyChecksOf rI 35 [(0, .ref (Ea E o))] [.int s0] w (f_X4_onlyChecksOf_35 (En E) o s0 w) := by
  unfold f_X4_onlyChecksOf_35
  refine sim_istore_n [(2, .int s0), (0, .ref (Ea E o))] dX4_onlyChecksOf_35 (Nat.le_of_ble_eq_true rfl) rfl rfl ?_
  refine sim_iload_n 0 dX4_onlyChecksOf_36 rfl rfl ?_
  refine sim_istore_n [(3, .int s0), (2, .int s0), (0, .ref (Ea E o))] dX4_onlyChecksOf_37 (Nat.le_of_ble_eq_true rfl) rfl rfl ?_
  exact sim_sub [2, 0] rfl (sl_X4_onlyChecksOf_38 hL ho (sf_X4_onlyChecksOf_55 hL ho) (sf_X4_onlyChecksOf_63 hL ho) FU s0 w)
def f_X4_onlyChecksOf (N : Nat) (o : Nat) (v1 : Int32) (w : Wd) : Option (Int32 × Wd) :=
  if v1 = (w.1 o 4) then
  f_X4_onlyChecksOf_35 N o ((w.1 o 5) + ((w.1 o 5) &&& (1 : Int32))) w
  else
  f_X4_onlyChecksOf_35 N o (((w.1 o 5) + (1 : Int32)) - ((w.1 o 5) &&& (1 : Int32))) w
set_option maxRecDepth 20000 in
theorem c_X4_onlyChecksOf {E : Ev} (hL : LX E) {o : Nat} (ho : okP o = true) (v1 : Int32) (w : Wd) : Ct E m_X4_onlyChecksOf yX4_onlyChecksOf rI [.ref (Ea E o), .int v1] w (f_X4_onlyChecksOf (En E) o v1 w) := by
  refine Ct.of (by decide) ⟨rfl, rfl⟩ (Nat.le_of_ble_eq_true rfl) ?_
  show Sim E m_X4_onlyChecksOf rI 0 [(0, .ref (Ea E o)), (1, .int v1)] [] w (f_X4_onlyChecksOf (En E) o v1 w)
  unfold f_X4_onlyChecksOf
  refine sim_iload_n 1 dX4_onlyChecksOf_0 rfl rfl ?_
  refine sim_aload_n 0 dX4_onlyChecksOf_1 rfl rfl ?_
  refine sim_get (k := o) (ci := 2) (j := 4) (v := .int (w.1 o 4)) (okP_in ho hL).1 (okP_kd ho).1 (by decide) fl_X4_31 (by rw [fvs_P (okP_kd ho).1]; rfl) dX4_onlyChecksOf_2 rfl ?_
  refine sim_icmp_ne 22 dX4_onlyChecksOf_5 rfl rfl (fun _ => ?_) (fun _ => ?_)
  · refine sim_aload_n 0 dX4_onlyChecksOf_22 rfl rfl ?_
    refine sim_get (k := o) (ci := 2) (j := 5) (v := .int (w.1 o 5)) (okP_in ho hL).1 (okP_kd ho).1 (by decide) fl_X4_70 (by rw [fvs_P (okP_kd ho).1]; rfl) dX4_onlyChecksOf_23 rfl ?_
    refine sim_iconst (1 : Int32) dX4_onlyChecksOf_26 rfl rfl ?_
    refine sim_iadd dX4_onlyChecksOf_27 rfl ?_
    refine sim_aload_n 0 dX4_onlyChecksOf_28 rfl rfl ?_
    refine sim_get (k := o) (ci := 2) (j := 5) (v := .int (w.1 o 5)) (okP_in ho hL).1 (okP_kd ho).1 (by decide) fl_X4_70 (by rw [fvs_P (okP_kd ho).1]; rfl) dX4_onlyChecksOf_29 rfl ?_
    refine sim_iconst (1 : Int32) dX4_onlyChecksOf_32 rfl rfl ?_
    refine sim_iand dX4_onlyChecksOf_33 rfl ?_
    refine sim_isub dX4_onlyChecksOf_34 rfl ?_
    exact sim_sub [0] rfl (sf_X4_onlyChecksOf_35 hL ho (((w.1 o 5) + (1 : Int32)) - ((w.1 o 5) &&& (1 : Int32))) w)
  · refine sim_aload_n 0 dX4_onlyChecksOf_8 rfl rfl ?_
    refine sim_get (k := o) (ci := 2) (j := 5) (v := .int (w.1 o 5)) (okP_in ho hL).1 (okP_kd ho).1 (by decide) fl_X4_70 (by rw [fvs_P (okP_kd ho).1]; rfl) dX4_onlyChecksOf_9 rfl ?_
    refine sim_aload_n 0 dX4_onlyChecksOf_12 rfl rfl ?_
    refine sim_get (k := o) (ci := 2) (j := 5) (v := .int (w.1 o 5)) (okP_in ho hL).1 (okP_kd ho).1 (by decide) fl_X4_70 (by rw [fvs_P (okP_kd ho).1]; rfl) dX4_onlyChecksOf_13 rfl ?_
    refine sim_iconst (1 : Int32) dX4_onlyChecksOf_16 rfl rfl ?_
    refine sim_iand dX4_onlyChecksOf_17 rfl ?_
    refine sim_iadd dX4_onlyChecksOf_18 rfl ?_
    refine sim_goto (q := 35) dX4_onlyChecksOf_19 rfl ?_
    exact sim_sub [0] rfl (sf_X4_onlyChecksOf_35 hL ho ((w.1 o 5) + ((w.1 o 5) &&& (1 : Int32))) w)
def f_X4_ending_33 (N : Nat) (o : Nat) (s0 : Int32) (w : Wd) : Option (Int32 × Wd) :=
  some (s0, w)
set_option maxRecDepth 20000 in
theorem sf_X4_ending_33 {E : Ev} (hL : LX E) {o : Nat} (ho : okP o = true) (s0 : Int32) (w : Wd) : Sim E m_X4_ending rI 33 [] [.int s0] w (f_X4_ending_33 (En E) o s0 w) := by
  unfold f_X4_ending_33
  exact sim_iret rfl dX4_ending_33
def f_X4_ending (N : Nat) (o : Nat) (w : Wd) : Option (Int32 × Wd) :=
  if (4 : Int32) ≤ (w.1 o 8) then
  bd (f_X4_onlyChecksOf N o (0 : Int32) w) fun x1 w2 =>
  if x1 = (0 : Int32) then
  bd (f_X4_onlyChecksOf N o (1 : Int32) w2) fun x3 w4 =>
  if x3 = (0 : Int32) then
  f_X4_ending_33 N o (2 : Int32) w4
  else
  f_X4_ending_33 N o (4 : Int32) w4
  else
  some ((3 : Int32), w2)
  else
  some ((0 : Int32), w)
set_option maxRecDepth 20000 in
theorem c_X4_ending {E : Ev} (hL : LX E) {o : Nat} (ho : okP o = true) (w : Wd) : Ct E m_X4_ending yX4_ending rI [.ref (Ea E o)] w (f_X4_ending (En E) o w) := by
  refine Ct.of (by decide) ⟨rfl, rfl⟩ (Nat.le_of_ble_eq_true rfl) ?_
  show Sim E m_X4_ending rI 0 [(0, .ref (Ea E o))] [] w (f_X4_ending (En E) o w)
  unfold f_X4_ending
  refine sim_aload_n 0 dX4_ending_0 rfl rfl ?_
  refine sim_get (k := o) (ci := 2) (j := 8) (v := .int (w.1 o 8)) (okP_in ho hL).1 (okP_kd ho).1 (by decide) fl_X4_64 (by rw [fvs_P (okP_kd ho).1]; rfl) dX4_ending_1 rfl ?_
  refine sim_iconst (4 : Int32) dX4_ending_4 rfl rfl ?_
  refine sim_icmp_ge 10 dX4_ending_5 rfl rfl (fun _ => ?_) (fun _ => ?_)
  · refine sim_aload_n 0 dX4_ending_10 rfl rfl ?_
    refine sim_iconst (0 : Int32) dX4_ending_11 rfl rfl ?_
    refine sim_cVi (k := o) (ci := 2) [.int (0 : Int32)] [] (c_X4_onlyChecksOf hL ho (0 : Int32) w) (okP_in ho hL).1 (okP_kd ho).1 (by decide) rfl cb_X4_67 im_X4_onlyChecksOf se_X4_onlyChecksOf rfl rfl rfl (Nat.le_of_ble_eq_true rfl) dX4_ending_12 rfl (fun x1 w2 => ?_)
    refine sim_if_eq 20 dX4_ending_15 rfl rfl (fun _ => ?_) (fun _ => ?_)
    · refine sim_aload_n 0 dX4_ending_20 rfl rfl ?_
      refine sim_iconst (1 : Int32) dX4_ending_21 rfl rfl ?_
      refine sim_cVi (k := o) (ci := 2) [.int (1 : Int32)] [] (c_X4_onlyChecksOf hL ho (1 : Int32) w2) (okP_in ho hL).1 (okP_kd ho).1 (by decide) rfl cb_X4_67 im_X4_onlyChecksOf se_X4_onlyChecksOf rfl rfl rfl (Nat.le_of_ble_eq_true rfl) dX4_ending_22 rfl (fun x3 w4 => ?_)
      refine sim_if_eq 32 dX4_ending_25 rfl rfl (fun _ => ?_) (fun _ => ?_)
      · refine sim_iconst (2 : Int32) dX4_ending_32 rfl rfl ?_
        exact sim_sub [] rfl (sf_X4_ending_33 hL ho (2 : Int32) w4)
      · refine sim_iconst (4 : Int32) dX4_ending_28 rfl rfl ?_
        refine sim_goto (q := 33) dX4_ending_29 rfl ?_
        exact sim_sub [] rfl (sf_X4_ending_33 hL ho (4 : Int32) w4)
    · refine sim_iconst (3 : Int32) dX4_ending_18 rfl rfl ?_
      exact sim_iret rfl dX4_ending_19
  · refine sim_iconst (0 : Int32) dX4_ending_8 rfl rfl ?_
    exact sim_iret rfl dX4_ending_9
def f_X4_isOpen_22 (N : Nat) (o : Nat) (s0 : Int32) (w : Wd) : Option (Int32 × Wd) :=
  if zb s0 = true then some (s0, w) else none
set_option maxRecDepth 20000 in
theorem sf_X4_isOpen_22 {E : Ev} (hL : LX E) {o : Nat} (ho : okP o = true) (s0 : Int32) (w : Wd) : Sim E m_X4_isOpen rI 22 [] [.int s0] w (f_X4_isOpen_22 (En E) o s0 w) := by
  unfold f_X4_isOpen_22
  exact sim_zret rfl dX4_isOpen_22
def f_X4_isOpen_21 (N : Nat) (o : Nat) (w : Wd) : Option (Int32 × Wd) :=
  f_X4_isOpen_22 N o (0 : Int32) w
set_option maxRecDepth 20000 in
theorem sf_X4_isOpen_21 {E : Ev} (hL : LX E) {o : Nat} (ho : okP o = true) (w : Wd) : Sim E m_X4_isOpen rI 21 [] [] w (f_X4_isOpen_21 (En E) o w) := by
  unfold f_X4_isOpen_21
  refine sim_iconst (0 : Int32) dX4_isOpen_21 rfl rfl ?_
  exact sim_sub [] rfl (sf_X4_isOpen_22 hL ho (0 : Int32) w)
def f_X4_isOpen (N : Nat) (o : Nat) (w : Wd) : Option (Int32 × Wd) :=
  if (300 : Int32) ≤ (w.1 o 6) then
  f_X4_isOpen_21 N o w
  else
  bd (f_X4_ending N o w) fun x1 w2 =>
  if x1 = (0 : Int32) then
  f_X4_isOpen_22 N o (1 : Int32) w2
  else
  f_X4_isOpen_21 N o w2
set_option maxRecDepth 20000 in
theorem c_X4_isOpen {E : Ev} (hL : LX E) {o : Nat} (ho : okP o = true) (w : Wd) : Ct E m_X4_isOpen yX4_isOpen rI [.ref (Ea E o)] w (f_X4_isOpen (En E) o w) := by
  refine Ct.of (by decide) ⟨rfl, rfl⟩ (Nat.le_of_ble_eq_true rfl) ?_
  show Sim E m_X4_isOpen rI 0 [(0, .ref (Ea E o))] [] w (f_X4_isOpen (En E) o w)
  unfold f_X4_isOpen
  refine sim_aload_n 0 dX4_isOpen_0 rfl rfl ?_
  refine sim_get (k := o) (ci := 2) (j := 6) (v := .int (w.1 o 6)) (okP_in ho hL).1 (okP_kd ho).1 (by decide) fl_X4_34 (by rw [fvs_P (okP_kd ho).1]; rfl) dX4_isOpen_1 rfl ?_
  refine sim_sipush (300 : Int32) dX4_isOpen_4 rfl rfl ?_
  refine sim_icmp_ge 21 dX4_isOpen_7 rfl rfl (fun _ => ?_) (fun _ => ?_)
  · exact sim_sub [] rfl (sf_X4_isOpen_21 hL ho w)
  · refine sim_aload_n 0 dX4_isOpen_10 rfl rfl ?_
    refine sim_cVi (k := o) (ci := 2) [] [] (c_X4_ending hL ho w) (okP_in ho hL).1 (okP_kd ho).1 (by decide) rfl cb_X4_60 im_X4_ending se_X4_ending rfl rfl rfl (Nat.le_of_ble_eq_true rfl) dX4_isOpen_11 rfl (fun x1 w2 => ?_)
    refine sim_if_ne 21 dX4_isOpen_14 rfl rfl (fun _ => ?_) (fun _ => ?_)
    · exact sim_sub [] rfl (sf_X4_isOpen_21 hL ho w2)
    · refine sim_iconst (1 : Int32) dX4_isOpen_17 rfl rfl ?_
      refine sim_goto (q := 22) dX4_isOpen_18 rfl ?_
      exact sim_sub [] rfl (sf_X4_isOpen_22 hL ho (1 : Int32) w2)
def f_X4_latestGaveCheck_26 (N : Nat) (o : Nat) (s0 : Int32) (w : Wd) : Option (Int32 × Wd) :=
  if zb s0 = true then some (s0, w) else none
set_option maxRecDepth 20000 in
theorem sf_X4_latestGaveCheck_26 {E : Ev} (hL : LX E) {o : Nat} (ho : okP o = true) (s0 : Int32) (w : Wd) : Sim E m_X4_latestGaveCheck rI 26 [] [.int s0] w (f_X4_latestGaveCheck_26 (En E) o s0 w) := by
  unfold f_X4_latestGaveCheck_26
  exact sim_zret rfl dX4_latestGaveCheck_26
def f_X4_latestGaveCheck_25 (N : Nat) (o : Nat) (w : Wd) : Option (Int32 × Wd) :=
  f_X4_latestGaveCheck_26 N o (0 : Int32) w
set_option maxRecDepth 20000 in
theorem sf_X4_latestGaveCheck_25 {E : Ev} (hL : LX E) {o : Nat} (ho : okP o = true) (w : Wd) : Sim E m_X4_latestGaveCheck rI 25 [] [] w (f_X4_latestGaveCheck_25 (En E) o w) := by
  unfold f_X4_latestGaveCheck_25
  refine sim_iconst (0 : Int32) dX4_latestGaveCheck_25 rfl rfl ?_
  exact sim_sub [] rfl (sf_X4_latestGaveCheck_26 hL ho (0 : Int32) w)
def f_X4_latestGaveCheck (N : Nat) (o : Nat) (w : Wd) : Option (Int32 × Wd) :=
  if (w.1 o 6) ≤ (0 : Int32) then
  f_X4_latestGaveCheck_25 N o w
  else
  if inb ((w.1 o 6) - (1 : Int32)) 300 = true then
  if (w.1 (o + 2) (Int32.toNatClampNeg ((w.1 o 6) - (1 : Int32)))) = (0 : Int32) then
  f_X4_latestGaveCheck_25 N o w
  else
  f_X4_latestGaveCheck_26 N o (1 : Int32) w
  else none
set_option maxRecDepth 20000 in
theorem c_X4_latestGaveCheck {E : Ev} (hL : LX E) {o : Nat} (ho : okP o = true) (w : Wd) : Ct E m_X4_latestGaveCheck yX4_latestGaveCheck rI [.ref (Ea E o)] w (f_X4_latestGaveCheck (En E) o w) := by
  refine Ct.of (by decide) ⟨rfl, rfl⟩ (Nat.le_of_ble_eq_true rfl) ?_
  show Sim E m_X4_latestGaveCheck rI 0 [(0, .ref (Ea E o))] [] w (f_X4_latestGaveCheck (En E) o w)
  unfold f_X4_latestGaveCheck
  refine sim_aload_n 0 dX4_latestGaveCheck_0 rfl rfl ?_
  refine sim_get (k := o) (ci := 2) (j := 6) (v := .int (w.1 o 6)) (okP_in ho hL).1 (okP_kd ho).1 (by decide) fl_X4_34 (by rw [fvs_P (okP_kd ho).1]; rfl) dX4_latestGaveCheck_1 rfl ?_
  refine sim_if_le 25 dX4_latestGaveCheck_4 rfl rfl (fun _ => ?_) (fun _ => ?_)
  · exact sim_sub [] rfl (sf_X4_latestGaveCheck_25 hL ho w)
  · refine sim_aload_n 0 dX4_latestGaveCheck_7 rfl rfl ?_
    refine sim_get (k := o) (ci := 2) (j := 2) (v := .ref (Ea E (o + 2))) (okP_in ho hL).1 (okP_kd ho).1 (by decide) fl_X4_13 (by rw [fvs_P (okP_kd ho).1]; rfl) dX4_latestGaveCheck_8 rfl ?_
    refine sim_aload_n 0 dX4_latestGaveCheck_11 rfl rfl ?_
    refine sim_get (k := o) (ci := 2) (j := 6) (v := .int (w.1 o 6)) (okP_in ho hL).1 (okP_kd ho).1 (by decide) fl_X4_34 (by rw [fvs_P (okP_kd ho).1]; rfl) dX4_latestGaveCheck_12 rfl ?_
    refine sim_iconst (1 : Int32) dX4_latestGaveCheck_15 rfl rfl ?_
    refine sim_isub dX4_latestGaveCheck_16 rfl ?_
    refine sim_baload (k := (o + 2)) (okP_in ho hL).2.2.1 (okP_kd ho).2.2.1 (okP_ln ho _).2.1 dX4_latestGaveCheck_17 rfl ?_
    refine sim_if_eq 25 dX4_latestGaveCheck_18 rfl rfl (fun _ => ?_) (fun _ => ?_)
    · exact sim_sub [] rfl (sf_X4_latestGaveCheck_25 hL ho w)
    · refine sim_iconst (1 : Int32) dX4_latestGaveCheck_21 rfl rfl ?_
      refine sim_goto (q := 26) dX4_latestGaveCheck_22 rfl ?_
      exact sim_sub [] rfl (sf_X4_latestGaveCheck_26 hL ho (1 : Int32) w)
def f_X4_codeOf (N : Nat) (o : Nat) (v1 : Int32) (w : Wd) : Option (Int32 × Wd) :=
  if inb v1 300 = true then
  some ((w.1 (o + 1) (Int32.toNatClampNeg v1)), w)
  else none
set_option maxRecDepth 20000 in
theorem c_X4_codeOf {E : Ev} (hL : LX E) {o : Nat} (ho : okP o = true) (v1 : Int32) (w : Wd) : Ct E m_X4_codeOf yX4_codeOf rI [.ref (Ea E o), .int v1] w (f_X4_codeOf (En E) o v1 w) := by
  refine Ct.of (by decide) ⟨rfl, rfl⟩ (Nat.le_of_ble_eq_true rfl) ?_
  show Sim E m_X4_codeOf rI 0 [(0, .ref (Ea E o)), (1, .int v1)] [] w (f_X4_codeOf (En E) o v1 w)
  unfold f_X4_codeOf
  refine sim_aload_n 0 dX4_codeOf_0 rfl rfl ?_
  refine sim_get (k := o) (ci := 2) (j := 1) (v := .ref (Ea E (o + 1))) (okP_in ho hL).1 (okP_kd ho).1 (by decide) fl_X4_9 (by rw [fvs_P (okP_kd ho).1]; rfl) dX4_codeOf_1 rfl ?_
  refine sim_iload_n 1 dX4_codeOf_4 rfl rfl ?_
  refine sim_iaload (k := (o + 1)) (okP_in ho hL).2.1 (okP_kd ho).2.1 (okP_ln ho _).1 dX4_codeOf_5 rfl ?_
  exact sim_iret rfl dX4_codeOf_6
def f_X5_countRows_20 (N : Nat) (Q : Int32 → Int32 → Int32 → Wd → Option (Int32 × Wd)) (v4 : Int32) (w : Wd) : Option (Int32 × Wd) :=
  some (v4, w)
set_option maxRecDepth 20000 in
theorem sf_X5_countRows_20 {E : Ev} (hL : LX E) {d dq : Nat} (hB : BASE_X5_countRows ≤ d) (hq : dq + 1 ≤ d) {Q : Int32 → Int32 → Int32 → Wd → Option (Int32 × Wd)} (hQ : ∀ (v1 v2 v3 : Int32) (w : Wd), Ct E (m_X5_countRows dq) yX5_countRows rI [.ref (Ea E 27), .int v1, .int v2, .int v3] w (Q v1 v2 v3 w)) (v4 : Int32) (w : Wd) : Sim E (m_X5_countRows d) rI 20 [(4, .int v4)] [] w (f_X5_countRows_20 (En E) Q v4 w) := by
  unfold f_X5_countRows_20
  refine sim_iload 0 dX5_countRows_20 rfl rfl ?_
  exact sim_iret rfl dX5_countRows_22
def b_X5_countRows_29 (N : Nat) (Q : Int32 → Int32 → Int32 → Wd → Option (Int32 × Wd)) (R : Int32 → Int32 → Int32 → Int32 → Int32 → Int32 → Wd → Option (Int32 × Wd)) (K94 : Int32 → Wd → Option (Int32 × Wd)) (v1 : Int32) (v2 : Int32) (v3 : Int32) (v4 : Int32) (v5 : Int32) (v6 : Int32) (w : Wd) : Option (Int32 × Wd) :=
  if v4 ≤ v6 then
  K94 v5 w
  else
  if v3 < v5 then
  K94 v5 w
  else
  bd (f_X5_listed N v2 v6 w) fun x3 w4 =>
  bd (f_X6_apply N x3 w4) fun _ w5 =>
  bd (Q (v1 - (1 : Int32)) (v2 + (1 : Int32)) (v3 - v5) w5) fun x6 w7 =>
  lt (v5 + x6) fun x8 =>
  bd (f_X6_revert N x3 w7) fun _ w9 =>
  R v1 v2 v3 v4 x8 (v6 + (1 : Int32)) w9
set_option maxRecDepth 20000 in
theorem sb_X5_countRows_29 {E : Ev} (hL : LX E) {d dq : Nat} (hB : BASE_X5_countRows ≤ d) (hq : dq + 1 ≤ d) {Q : Int32 → Int32 → Int32 → Wd → Option (Int32 × Wd)} (hQ : ∀ (v1 v2 v3 : Int32) (w : Wd), Ct E (m_X5_countRows dq) yX5_countRows rI [.ref (Ea E 27), .int v1, .int v2, .int v3] w (Q v1 v2 v3 w)) {R : Int32 → Int32 → Int32 → Int32 → Int32 → Int32 → Wd → Option (Int32 × Wd)} (hR : ∀ (v1 : Int32) (v2 : Int32) (v3 : Int32) (v4 : Int32) (v5 : Int32) (v6 : Int32) (w : Wd), Sim E (m_X5_countRows d) rI 29 [(0, .ref (Ea E 27)), (1, .int v1), (2, .int v2), (3, .int v3), (4, .int v4), (5, .int v5), (6, .int v6)] [] w (R v1 v2 v3 v4 v5 v6 w)) {K94 : Int32 → Wd → Option (Int32 × Wd)} (hK94 : ∀ (v5 : Int32) (w : Wd), Sim E (m_X5_countRows d) rI 94 [(5, .int v5)] [] w (K94 v5 w)) (v1 : Int32) (v2 : Int32) (v3 : Int32) (v4 : Int32) (v5 : Int32) (v6 : Int32) (w : Wd) : Sim E (m_X5_countRows d) rI 29 [(0, .ref (Ea E 27)), (1, .int v1), (2, .int v2), (3, .int v3), (4, .int v4), (5, .int v5), (6, .int v6)] [] w (b_X5_countRows_29 (En E) Q R K94 v1 v2 v3 v4 v5 v6 w) := by
  unfold b_X5_countRows_29
  refine sim_iload 6 dX5_countRows_29 rfl rfl ?_
  refine sim_iload 4 dX5_countRows_31 rfl rfl ?_
  refine sim_icmp_ge 94 dX5_countRows_33 rfl rfl (fun _ => ?_) (fun _ => ?_)
  · exact sim_sub [5] rfl (hK94 v5 w)
  · refine sim_iload 5 dX5_countRows_36 rfl rfl ?_
    refine sim_iload_n 3 dX5_countRows_38 rfl rfl ?_
    refine sim_icmp_gt 94 dX5_countRows_39 rfl rfl (fun _ => ?_) (fun _ => ?_)
    · exact sim_sub [5] rfl (hK94 v5 w)
    · refine sim_aload_n 0 dX5_countRows_42 rfl rfl ?_
      refine sim_iload_n 2 dX5_countRows_43 rfl rfl ?_
      refine sim_iload 6 dX5_countRows_44 rfl rfl ?_
      refine sim_cVi (k := 27) (ci := 3) [.int v2, .int v6] [] (c_X5_listed hL v2 v6 w) (hL.1 27 rfl) rfl (by decide) rfl cb_X5_133 im_X5_listed se_X5_listed rfl (DD_le hB rfl rfl) rfl (Nat.le_of_ble_eq_true rfl) dX5_countRows_46 rfl (fun x3 w4 => ?_)
      refine sim_istore [(7, .int x3), (0, .ref (Ea E 27)), (1, .int v1), (2, .int v2), (3, .int v3), (4, .int v4), (5, .int v5), (6, .int v6)] dX5_countRows_49 (Nat.le_of_ble_eq_true rfl) rfl rfl ?_
      refine sim_aload_n 1 dX5_countRows_51 rfl rfl ?_
      refine sim_get (k := 27) (ci := 3) (j := 1) (v := .ref (Ea E 22)) (hL.1 27 rfl) rfl (by decide) fl_X5_13 rfl dX5_countRows_52 rfl ?_
      refine sim_iload 0 dX5_countRows_55 rfl rfl ?_
      refine sim_cVv (k := 22) (ci := 4) [.int x3] [] (c_X6_apply hL x3 w4) (hL.1 22 rfl) rfl (by decide) rfl cb_X5_102 im_X6_apply se_X6_apply rfl (DD_le hB rfl rfl) rfl (Nat.le_of_ble_eq_true rfl) dX5_countRows_57 rfl (fun _ w5 => ?_)
      refine sim_iload 6 dX5_countRows_60 rfl rfl ?_
      refine sim_aload_n 1 dX5_countRows_62 rfl rfl ?_
      refine sim_iload_n 2 dX5_countRows_63 rfl rfl ?_
      refine sim_iconst (1 : Int32) dX5_countRows_64 rfl rfl ?_
      refine sim_isub dX5_countRows_65 rfl ?_
      refine sim_iload_n 3 dX5_countRows_66 rfl rfl ?_
      refine sim_iconst (1 : Int32) dX5_countRows_67 rfl rfl ?_
      refine sim_iadd dX5_countRows_68 rfl ?_
      refine sim_iload_n 4 dX5_countRows_69 rfl rfl ?_
      refine sim_iload 6 dX5_countRows_70 rfl rfl ?_
      refine sim_isub dX5_countRows_72 rfl ?_
      refine sim_cVi (k := 27) (ci := 3) [.int (v1 - (1 : Int32)), .int (v2 + (1 : Int32)), .int (v3 - v5)] [.int v5] (hQ (v1 - (1 : Int32)) (v2 + (1 : Int32)) (v3 - v5) w5) (hL.1 27 rfl) rfl (by decide) rfl (cb_X5_136 _) im_X5_countRows se_X5_countRows rfl (DD_q hq rfl) rfl (Nat.le_of_ble_eq_true rfl) dX5_countRows_73 rfl (fun x6 w7 => ?_)
      refine sim_iadd dX5_countRows_76 rfl ?_
      refine sim_lt (fun x8 => ?_)
      refine sim_istore [(5, .int x8), (7, .int x3), (0, .ref (Ea E 27)), (1, .int v1), (2, .int v2), (3, .int v3), (4, .int v4), (6, .int v6)] dX5_countRows_77 (Nat.le_of_ble_eq_true rfl) rfl rfl ?_
      refine sim_aload_n 2 dX5_countRows_79 rfl rfl ?_
      refine sim_get (k := 27) (ci := 3) (j := 1) (v := .ref (Ea E 22)) (hL.1 27 rfl) rfl (by decide) fl_X5_13 rfl dX5_countRows_80 rfl ?_
      refine sim_iload 1 dX5_countRows_83 rfl rfl ?_
      refine sim_cVv (k := 22) (ci := 4) [.int x3] [] (c_X6_revert hL x3 w7) (hL.1 22 rfl) rfl (by decide) rfl cb_X5_109 im_X6_revert se_X6_revert rfl (DD_le hB rfl rfl) rfl (Nat.le_of_ble_eq_true rfl) dX5_countRows_85 rfl (fun _ w9 => ?_)
      refine sim_iinc (v6 + (1 : Int32)) 7 [(6, .int (v6 + (1 : Int32))), (5, .int x8), (7, .int x3), (0, .ref (Ea E 27)), (1, .int v1), (2, .int v2), (3, .int v3), (4, .int v4)] dX5_countRows_88 rfl rfl (Nat.le_of_ble_eq_true rfl) rfl rfl ?_
      refine sim_goto (q := 29) dX5_countRows_91 rfl ?_
      exact sim_sub [3, 4, 5, 6, 7, 1, 0] rfl (hR v1 v2 v3 v4 x8 (v6 + (1 : Int32)) w9)
def l_X5_countRows_29 (N : Nat) (Q : Int32 → Int32 → Int32 → Wd → Option (Int32 × Wd)) (K94 : Int32 → Wd → Option (Int32 × Wd)) (n : Nat) : Int32 → Int32 → Int32 → Int32 → Int32 → Int32 → Wd → Option (Int32 × Wd) := itr (fun _ _ _ _ _ _ _ => none) (fun R => b_X5_countRows_29 N Q R K94) n
set_option maxRecDepth 20000 in
theorem sl_X5_countRows_29 {E : Ev} (hL : LX E) {d dq : Nat} (hB : BASE_X5_countRows ≤ d) (hq : dq + 1 ≤ d) {Q : Int32 → Int32 → Int32 → Wd → Option (Int32 × Wd)} (hQ : ∀ (v1 v2 v3 : Int32) (w : Wd), Ct E (m_X5_countRows dq) yX5_countRows rI [.ref (Ea E 27), .int v1, .int v2, .int v3] w (Q v1 v2 v3 w)) {K94 : Int32 → Wd → Option (Int32 × Wd)} (hK94 : ∀ (v5 : Int32) (w : Wd), Sim E (m_X5_countRows d) rI 94 [(5, .int v5)] [] w (K94 v5 w)) : ∀ (n : Nat) (v1 : Int32) (v2 : Int32) (v3 : Int32) (v4 : Int32) (v5 : Int32) (v6 : Int32) (w : Wd), Sim E (m_X5_countRows d) rI 29 [(0, .ref (Ea E 27)), (1, .int v1), (2, .int v2), (3, .int v3), (4, .int v4), (5, .int v5), (6, .int v6)] [] w (l_X5_countRows_29 (En E) Q K94 n v1 v2 v3 v4 v5 v6 w) := by
  intro n
  induction n with
  | zero => intros; exact sim_none
  | succ n ih => intros; exact sb_X5_countRows_29 hL hB hq hQ (R := l_X5_countRows_29 (En E) Q K94 n) ih hK94 _ _ _ _ _ _ _
def f_X5_countRows_94 (N : Nat) (Q : Int32 → Int32 → Int32 → Wd → Option (Int32 × Wd)) (v5 : Int32) (w : Wd) : Option (Int32 × Wd) :=
  some (v5, w)
set_option maxRecDepth 20000 in
theorem sf_X5_countRows_94 {E : Ev} (hL : LX E) {d dq : Nat} (hB : BASE_X5_countRows ≤ d) (hq : dq + 1 ≤ d) {Q : Int32 → Int32 → Int32 → Wd → Option (Int32 × Wd)} (hQ : ∀ (v1 v2 v3 : Int32) (w : Wd), Ct E (m_X5_countRows dq) yX5_countRows rI [.ref (Ea E 27), .int v1, .int v2, .int v3] w (Q v1 v2 v3 w)) (v5 : Int32) (w : Wd) : Sim E (m_X5_countRows d) rI 94 [(5, .int v5)] [] w (f_X5_countRows_94 (En E) Q v5 w) := by
  unfold f_X5_countRows_94
  refine sim_iload 0 dX5_countRows_94 rfl rfl ?_
  exact sim_iret rfl dX5_countRows_96
def f_X5_countRows (N : Nat) (Q : Int32 → Int32 → Int32 → Wd → Option (Int32 × Wd)) (v1 : Int32) (v2 : Int32) (v3 : Int32) (w : Wd) : Option (Int32 × Wd) :=
  bd (f_X5_listLawful N v2 w) fun x1 w2 =>
  if v1 ≤ (1 : Int32) then
  f_X5_countRows_20 N Q x1 w2
  else
  if (v2 + (1 : Int32)) < (10 : Int32) then
  l_X5_countRows_29 N Q (f_X5_countRows_94 N Q) FU v1 v2 v3 x1 (0 : Int32) (0 : Int32) w2
  else
  f_X5_countRows_20 N Q x1 w2
set_option maxRecDepth 20000 in
theorem c_X5_countRows {E : Ev} (hL : LX E) {d dq : Nat} (hB : BASE_X5_countRows ≤ d) (hq : dq + 1 ≤ d) {Q : Int32 → Int32 → Int32 → Wd → Option (Int32 × Wd)} (hQ : ∀ (v1 v2 v3 : Int32) (w : Wd), Ct E (m_X5_countRows dq) yX5_countRows rI [.ref (Ea E 27), .int v1, .int v2, .int v3] w (Q v1 v2 v3 w)) (v1 : Int32) (v2 : Int32) (v3 : Int32) (w : Wd) : Ct E (m_X5_countRows d) yX5_countRows rI [.ref (Ea E 27), .int v1, .int v2, .int v3] w (f_X5_countRows (En E) Q v1 v2 v3 w) := by
  refine Ct.of (by decide) ⟨rfl, rfl⟩ (Nat.le_of_ble_eq_true rfl) ?_
  show Sim E (m_X5_countRows d) rI 0 [(0, .ref (Ea E 27)), (1, .int v1), (2, .int v2), (3, .int v3)] [] w (f_X5_countRows (En E) Q v1 v2 v3 w)
  unfold f_X5_countRows
  refine sim_aload_n 0 dX5_countRows_0 rfl rfl ?_
  refine sim_iload_n 2 dX5_countRows_1 rfl rfl ?_
  refine sim_cVi (k := 27) (ci := 3) [.int v2] [] (c_X5_listLawful hL v2 w) (hL.1 27 rfl) rfl (by decide) rfl cb_X5_130 im_X5_listLawful se_X5_listLawful rfl (DD_le hB rfl rfl) rfl (Nat.le_of_ble_eq_true rfl) dX5_countRows_2 rfl (fun x1 w2 => ?_)
  refine sim_istore [(4, .int x1), (0, .ref (Ea E 27)), (1, .int v1), (2, .int v2), (3, .int v3)] dX5_countRows_5 (Nat.le_of_ble_eq_true rfl) rfl rfl ?_
  refine sim_iload_n 2 dX5_countRows_7 rfl rfl ?_
  refine sim_iconst (1 : Int32) dX5_countRows_8 rfl rfl ?_
  refine sim_icmp_le 20 dX5_countRows_9 rfl rfl (fun _ => ?_) (fun _ => ?_)
  · exact sim_sub [0] rfl (sf_X5_countRows_20 hL hB hq hQ x1 w2)
  · refine sim_iload_n 3 dX5_countRows_12 rfl rfl ?_
    refine sim_iconst (1 : Int32) dX5_countRows_13 rfl rfl ?_
    refine sim_iadd dX5_countRows_14 rfl ?_
    refine sim_bipush (10 : Int32) dX5_countRows_15 rfl rfl ?_
    refine sim_icmp_lt 23 dX5_countRows_17 rfl rfl (fun _ => ?_) (fun _ => ?_)
    · refine sim_iconst (0 : Int32) dX5_countRows_23 rfl rfl ?_
      refine sim_istore [(5, .int (0 : Int32)), (4, .int x1), (0, .ref (Ea E 27)), (1, .int v1), (2, .int v2), (3, .int v3)] dX5_countRows_24 (Nat.le_of_ble_eq_true rfl) rfl rfl ?_
      refine sim_iconst (0 : Int32) dX5_countRows_26 rfl rfl ?_
      refine sim_istore [(6, .int (0 : Int32)), (5, .int (0 : Int32)), (4, .int x1), (0, .ref (Ea E 27)), (1, .int v1), (2, .int v2), (3, .int v3)] dX5_countRows_27 (Nat.le_of_ble_eq_true rfl) rfl rfl ?_
      exact sim_sub [3, 4, 5, 6, 2, 1, 0] rfl (sl_X5_countRows_29 hL hB hq hQ (sf_X5_countRows_94 hL hB hq hQ) FU v1 v2 v3 x1 (0 : Int32) (0 : Int32) w2)
    · exact sim_sub [0] rfl (sf_X5_countRows_20 hL hB hq hQ x1 w2)
def g_X5_countRows (N : Nat) : Nat → Int32 → Int32 → Int32 → Wd → Option (Int32 × Wd)
  | 0 => fun _ _ _ _ => none
  | n + 1 => f_X5_countRows N (g_X5_countRows N n)
set_option maxRecDepth 20000 in
theorem gc_X5_countRows {E : Ev} (hL : LX E) : ∀ (n : Nat) (v1 v2 v3 : Int32) (w : Wd), Ct E (m_X5_countRows (6 + n)) yX5_countRows rI [.ref (Ea E 27), .int v1, .int v2, .int v3] w (g_X5_countRows (En E) n v1 v2 v3 w) := by
  intro n
  induction n with
  | zero => intros; exact Ct_none
  | succ n ih => intro v1 v2 v3 w; exact c_X5_countRows hL (d := 6 + (n + 1)) (dq := 6 + n) (Nat.le_add_right _ _) (Nat.le_refl _) ih v1 v2 v3 w
def f_X5_countRowsR (N : Nat) (v1 v2 v3 : Int32) (w : Wd) : Option (Int32 × Wd) := g_X5_countRows N 12 v1 v2 v3 w
abbrev m_X5_countRowsR : Mt := m_X5_countRows 18
set_option maxRecDepth 20000 in
theorem c_X5_countRowsR {E : Ev} (hL : LX E) (v1 v2 v3 : Int32) (w : Wd) : Ct E m_X5_countRowsR yX5_countRows rI [.ref (Ea E 27), .int v1, .int v2, .int v3] w (f_X5_countRowsR (En E) v1 v2 v3 w) := gc_X5_countRows hL 12 v1 v2 v3 w
def f_X8_hasRaised_27 (N : Nat) (s0 : Int32) (w : Wd) : Option (Int32 × Wd) :=
  if zb s0 = true then some (s0, w) else none
set_option maxRecDepth 20000 in
theorem sf_X8_hasRaised_27 {E : Ev} (hL : LW E) (s0 : Int32) (w : Wd) : Sim E m_X8_hasRaised rI 27 [] [.int s0] w (f_X8_hasRaised_27 (En E) s0 w) := by
  unfold f_X8_hasRaised_27
  exact sim_zret rfl dX8_hasRaised_27
def f_X8_hasRaised (N : Nat) (v1 : Int32) (w : Wd) : Option (Int32 × Wd) :=
  if inb (v1 + (8 : Int32)) 16 = true then
  if inb (v1 + (8 : Int32)) 16 = true then
  if ((w.1 6 (Int32.toNatClampNeg (v1 + (8 : Int32)))) ||| (w.1 7 (Int32.toNatClampNeg (v1 + (8 : Int32))))) = (0 : Int32) then
  f_X8_hasRaised_27 N (0 : Int32) w
  else
  f_X8_hasRaised_27 N (1 : Int32) w
  else none
  else none
set_option maxRecDepth 20000 in
theorem c_X8_hasRaised {E : Ev} (hL : LW E) (v1 : Int32) (w : Wd) : Ct E m_X8_hasRaised yX8_hasRaised rI [.ref (Ea E 2), .int v1] w (f_X8_hasRaised (En E) v1 w) := by
  refine Ct.of (by decide) ⟨rfl, rfl⟩ (Nat.le_of_ble_eq_true rfl) ?_
  show Sim E m_X8_hasRaised rI 0 [(0, .ref (Ea E 2)), (1, .int v1)] [] w (f_X8_hasRaised (En E) v1 w)
  unfold f_X8_hasRaised
  refine sim_aload_n 0 dX8_hasRaised_0 rfl rfl ?_
  refine sim_get (k := 2) (ci := 6) (j := 5) (v := .ref (Ea E 6)) (hL 2 rfl) rfl (by decide) fl_X8_9 rfl dX8_hasRaised_1 rfl ?_
  refine sim_iload_n 1 dX8_hasRaised_4 rfl rfl ?_
  refine sim_bipush (8 : Int32) dX8_hasRaised_5 rfl rfl ?_
  refine sim_iadd dX8_hasRaised_7 rfl ?_
  refine sim_iaload (k := 6) (hL 6 rfl) rfl rfl dX8_hasRaised_8 rfl ?_
  refine sim_aload_n 0 dX8_hasRaised_9 rfl rfl ?_
  refine sim_get (k := 2) (ci := 6) (j := 6) (v := .ref (Ea E 7)) (hL 2 rfl) rfl (by decide) fl_X8_15 rfl dX8_hasRaised_10 rfl ?_
  refine sim_iload_n 1 dX8_hasRaised_13 rfl rfl ?_
  refine sim_bipush (8 : Int32) dX8_hasRaised_14 rfl rfl ?_
  refine sim_iadd dX8_hasRaised_16 rfl ?_
  refine sim_iaload (k := 7) (hL 7 rfl) rfl rfl dX8_hasRaised_17 rfl ?_
  refine sim_ior dX8_hasRaised_18 rfl ?_
  refine sim_if_eq 26 dX8_hasRaised_19 rfl rfl (fun _ => ?_) (fun _ => ?_)
  · refine sim_iconst (0 : Int32) dX8_hasRaised_26 rfl rfl ?_
    exact sim_sub [] rfl (sf_X8_hasRaised_27 hL (0 : Int32) w)
  · refine sim_iconst (1 : Int32) dX8_hasRaised_22 rfl rfl ?_
    refine sim_goto (q := 27) dX8_hasRaised_23 rfl ?_
    exact sim_sub [] rfl (sf_X8_hasRaised_27 hL (1 : Int32) w)
def f_X6_load_85 (N : Nat) (R : Int32 → Int32 → Wd → Option (Int32 × Wd)) (K42 : Wd → Option (Int32 × Wd)) (K67 : Wd → Option (Int32 × Wd)) (K91 : Int32 → Wd → Option (Int32 × Wd)) (v2 : Int32) (v3 : Int32) (w : Wd) : Option (Int32 × Wd) :=
  R v2 (v3 + (1 : Int32)) w
set_option maxRecDepth 20000 in
theorem sf_X6_load_85 {E : Ev} (hL : LX E) {R : Int32 → Int32 → Wd → Option (Int32 × Wd)} (hR : ∀ (v2 : Int32) (v3 : Int32) (w : Wd), Sim E m_X6_load rI 4 [(0, .ref (Ea E 22)), (1, .ref (Ea E 11)), (2, .int v2), (3, .int v3)] [] w (R v2 v3 w)) {K42 : Wd → Option (Int32 × Wd)} (hK42 : ∀ (w : Wd), Sim E m_X6_load rI 42 [] [] w (K42  w)) {K67 : Wd → Option (Int32 × Wd)} (hK67 : ∀ (w : Wd), Sim E m_X6_load rI 67 [] [] w (K67  w)) {K91 : Int32 → Wd → Option (Int32 × Wd)} (hK91 : ∀ (v2 : Int32) (w : Wd), Sim E m_X6_load rI 91 [(2, .int v2)] [] w (K91 v2 w)) (v2 : Int32) (v3 : Int32) (w : Wd) : Sim E m_X6_load rI 85 [(0, .ref (Ea E 22)), (1, .ref (Ea E 11)), (2, .int v2), (3, .int v3)] [] w (f_X6_load_85 (En E) R K42 K67 K91 v2 v3 w) := by
  unfold f_X6_load_85
  refine sim_iinc (v3 + (1 : Int32)) 3 [(3, .int (v3 + (1 : Int32))), (0, .ref (Ea E 22)), (1, .ref (Ea E 11)), (2, .int v2)] dX6_load_85 rfl rfl (Nat.le_of_ble_eq_true rfl) rfl rfl ?_
  refine sim_goto (q := 4) dX6_load_88 rfl ?_
  exact sim_sub [1, 2, 3, 0] rfl (hR v2 (v3 + (1 : Int32)) w)
def f_X6_load_69 (N : Nat) (R : Int32 → Int32 → Wd → Option (Int32 × Wd)) (K42 : Wd → Option (Int32 × Wd)) (K67 : Wd → Option (Int32 × Wd)) (K91 : Int32 → Wd → Option (Int32 × Wd)) (v2 : Int32) (v3 : Int32) (v4 : Int32) (w : Wd) : Option (Int32 × Wd) :=
  if inb v3 (N * N) = true then
  lw (wdI w 23 (Int32.toNatClampNeg v3) v4) fun w5 =>
  if v4 = (0 : Int32) then
  f_X6_load_85 N R K42 K67 K91 v2 v3 w5
  else
  f_X6_load_85 N R K42 K67 K91 (v2 + (1 : Int32)) v3 w5
  else none
set_option maxRecDepth 20000 in
theorem sf_X6_load_69 {E : Ev} (hL : LX E) {R : Int32 → Int32 → Wd → Option (Int32 × Wd)} (hR : ∀ (v2 : Int32) (v3 : Int32) (w : Wd), Sim E m_X6_load rI 4 [(0, .ref (Ea E 22)), (1, .ref (Ea E 11)), (2, .int v2), (3, .int v3)] [] w (R v2 v3 w)) {K42 : Wd → Option (Int32 × Wd)} (hK42 : ∀ (w : Wd), Sim E m_X6_load rI 42 [] [] w (K42  w)) {K67 : Wd → Option (Int32 × Wd)} (hK67 : ∀ (w : Wd), Sim E m_X6_load rI 67 [] [] w (K67  w)) {K91 : Int32 → Wd → Option (Int32 × Wd)} (hK91 : ∀ (v2 : Int32) (w : Wd), Sim E m_X6_load rI 91 [(2, .int v2)] [] w (K91 v2 w)) (v2 : Int32) (v3 : Int32) (v4 : Int32) (w : Wd) : Sim E m_X6_load rI 69 [(0, .ref (Ea E 22)), (1, .ref (Ea E 11)), (2, .int v2), (3, .int v3), (4, .int v4)] [] w (f_X6_load_69 (En E) R K42 K67 K91 v2 v3 v4 w) := by
  unfold f_X6_load_69
  refine sim_aload_n 0 dX6_load_69 rfl rfl ?_
  refine sim_get (k := 22) (ci := 4) (j := 3) (v := .ref (Ea E 23)) (hL.1 22 rfl) rfl (by decide) fl_X6_33 rfl dX6_load_70 rfl ?_
  refine sim_iload_n 3 dX6_load_73 rfl rfl ?_
  refine sim_iload 4 dX6_load_74 rfl rfl ?_
  refine sim_iastore (k := 23) (hL.1 23 rfl) rfl rfl dX6_load_76 rfl ?_
  refine sim_lw (fun w5 => ?_)
  refine sim_iload 4 dX6_load_77 rfl rfl ?_
  refine sim_if_eq 85 dX6_load_79 rfl rfl (fun _ => ?_) (fun _ => ?_)
  · exact sim_sub [0, 1, 2, 3] rfl (sf_X6_load_85 hL hR hK42 hK67 hK91 v2 v3 w5)
  · refine sim_iinc (v2 + (1 : Int32)) 2 [(2, .int (v2 + (1 : Int32))), (0, .ref (Ea E 22)), (1, .ref (Ea E 11)), (3, .int v3), (4, .int v4)] dX6_load_82 rfl rfl (Nat.le_of_ble_eq_true rfl) rfl rfl ?_
    exact sim_sub [1, 2, 0, 3] rfl (sf_X6_load_85 hL hR hK42 hK67 hK91 (v2 + (1 : Int32)) v3 w5)
def b_X6_load_4 (N : Nat) (R : Int32 → Int32 → Wd → Option (Int32 × Wd)) (K42 : Wd → Option (Int32 × Wd)) (K67 : Wd → Option (Int32 × Wd)) (K91 : Int32 → Wd → Option (Int32 × Wd)) (v2 : Int32) (v3 : Int32) (w : Wd) : Option (Int32 × Wd) :=
  if (w.1 22 2) ≤ v3 then
  K91 v2 w
  else
  if ¬ (w.1 22 1) = (0 : Int32) then
  if ¬ (w.1 22 1) = (0 : Int32) then
  bd (f_X1_told N (v3 / (w.1 22 1)) (v3 - v3 / (w.1 22 1) * (w.1 22 1)) w) fun x1 w2 =>
  if x1 < (0 : Int32) then
  K42 w2
  else
  if x1 ≤ (32 : Int32) then
  bd (f_X2_isRaised x1 w2) fun x3 w4 =>
  if x3 = (0 : Int32) then
  f_X6_load_69 N R K42 K67 K91 v2 v3 x1 w4
  else
  bd (f_X2_kindOf x1 w4) fun x6 w7 =>
  bd (f_X8_hasRaised N x6 w7) fun x8 w9 =>
  if x8 = (0 : Int32) then
  K67 w9
  else
  f_X6_load_69 N R K42 K67 K91 v2 v3 x1 w9
  else
  K42 w2
  else none
  else none
set_option maxRecDepth 20000 in
theorem sb_X6_load_4 {E : Ev} (hL : LX E) {R : Int32 → Int32 → Wd → Option (Int32 × Wd)} (hR : ∀ (v2 : Int32) (v3 : Int32) (w : Wd), Sim E m_X6_load rI 4 [(0, .ref (Ea E 22)), (1, .ref (Ea E 11)), (2, .int v2), (3, .int v3)] [] w (R v2 v3 w)) {K42 : Wd → Option (Int32 × Wd)} (hK42 : ∀ (w : Wd), Sim E m_X6_load rI 42 [] [] w (K42  w)) {K67 : Wd → Option (Int32 × Wd)} (hK67 : ∀ (w : Wd), Sim E m_X6_load rI 67 [] [] w (K67  w)) {K91 : Int32 → Wd → Option (Int32 × Wd)} (hK91 : ∀ (v2 : Int32) (w : Wd), Sim E m_X6_load rI 91 [(2, .int v2)] [] w (K91 v2 w)) (v2 : Int32) (v3 : Int32) (w : Wd) : Sim E m_X6_load rI 4 [(0, .ref (Ea E 22)), (1, .ref (Ea E 11)), (2, .int v2), (3, .int v3)] [] w (b_X6_load_4 (En E) R K42 K67 K91 v2 v3 w) := by
  unfold b_X6_load_4
  refine sim_iload_n 3 dX6_load_4 rfl rfl ?_
  refine sim_aload_n 0 dX6_load_5 rfl rfl ?_
  refine sim_get (k := 22) (ci := 4) (j := 2) (v := .int (w.1 22 2)) (hL.1 22 rfl) rfl (by decide) fl_X6_32 rfl dX6_load_6 rfl ?_
  refine sim_icmp_ge 91 dX6_load_9 rfl rfl (fun _ => ?_) (fun _ => ?_)
  · exact sim_sub [2] rfl (hK91 v2 w)
  · refine sim_aload_n 1 dX6_load_12 rfl rfl ?_
    refine sim_iload_n 3 dX6_load_13 rfl rfl ?_
    refine sim_aload_n 0 dX6_load_14 rfl rfl ?_
    refine sim_get (k := 22) (ci := 4) (j := 1) (v := .int (w.1 22 1)) (hL.1 22 rfl) rfl (by decide) fl_X6_28 rfl dX6_load_15 rfl ?_
    refine sim_idiv dX6_load_18 rfl ?_
    refine sim_iload_n 3 dX6_load_19 rfl rfl ?_
    refine sim_aload_n 0 dX6_load_20 rfl rfl ?_
    refine sim_get (k := 22) (ci := 4) (j := 1) (v := .int (w.1 22 1)) (hL.1 22 rfl) rfl (by decide) fl_X6_28 rfl dX6_load_21 rfl ?_
    refine sim_irem dX6_load_24 rfl ?_
    refine sim_cVi (k := 11) (ci := 1) [.int (v3 / (w.1 22 1)), .int (v3 - v3 / (w.1 22 1) * (w.1 22 1))] [] (c_X1_told hL (v3 / (w.1 22 1)) (v3 - v3 / (w.1 22 1) * (w.1 22 1)) w) (hL.1 11 rfl) rfl (by decide) rfl cb_X6_39 im_X1_told se_X1_told rfl rfl rfl (Nat.le_of_ble_eq_true rfl) dX6_load_25 rfl (fun x1 w2 => ?_)
    refine sim_istore [(4, .int x1), (0, .ref (Ea E 22)), (1, .ref (Ea E 11)), (2, .int v2), (3, .int v3)] dX6_load_28 (Nat.le_of_ble_eq_true rfl) rfl rfl ?_
    refine sim_iload 0 dX6_load_30 rfl rfl ?_
    refine sim_if_lt 42 dX6_load_32 rfl rfl (fun _ => ?_) (fun _ => ?_)
    · exact sim_sub [] rfl (hK42 w2)
    · refine sim_iload 0 dX6_load_35 rfl rfl ?_
      refine sim_bipush (32 : Int32) dX6_load_37 rfl rfl ?_
      refine sim_icmp_le 44 dX6_load_39 rfl rfl (fun _ => ?_) (fun _ => ?_)
      · refine sim_iload 0 dX6_load_44 rfl rfl ?_
        refine sim_cSi [.int x1] [] (c_X2_isRaised x1 w2) cb_X6_45 sx_X2_isRaised rfl rfl rfl (Nat.le_of_ble_eq_true rfl) dX6_load_46 rfl (fun x3 w4 => ?_)
        refine sim_if_eq 69 dX6_load_49 rfl rfl (fun _ => ?_) (fun _ => ?_)
        · exact sim_sub [1, 2, 3, 4, 0] rfl (sf_X6_load_69 hL hR hK42 hK67 hK91 v2 v3 x1 w4)
        · refine sim_aload_n 1 dX6_load_52 rfl rfl ?_
          refine sim_get (k := 22) (ci := 4) (j := 0) (v := .ref (Ea E 2)) (hL.1 22 rfl) rfl (by decide) fl_X6_18 rfl dX6_load_53 rfl ?_
          refine sim_iload 0 dX6_load_56 rfl rfl ?_
          refine sim_cSi [.int x1] [.ref (Ea E 2)] (c_X2_kindOf x1 w4) cb_X6_51 sx_X2_kindOf rfl rfl rfl (Nat.le_of_ble_eq_true rfl) dX6_load_58 rfl (fun x6 w7 => ?_)
          refine sim_cVi (k := 2) (ci := 6) [.int x6] [] (c_X8_hasRaised hL.w x6 w7) (hL.1 2 rfl) rfl (by decide) rfl cb_X6_55 im_X8_hasRaised se_X8_hasRaised rfl rfl rfl (Nat.le_of_ble_eq_true rfl) dX6_load_61 rfl (fun x8 w9 => ?_)
          refine sim_if_ne 69 dX6_load_64 rfl rfl (fun _ => ?_) (fun _ => ?_)
          · exact sim_sub [1, 2, 3, 4, 0] rfl (sf_X6_load_69 hL hR hK42 hK67 hK91 v2 v3 x1 w9)
          · exact sim_sub [] rfl (hK67 w9)
      · exact sim_sub [] rfl (hK42 w2)
def l_X6_load_4 (N : Nat) (K42 : Wd → Option (Int32 × Wd)) (K67 : Wd → Option (Int32 × Wd)) (K91 : Int32 → Wd → Option (Int32 × Wd)) (n : Nat) : Int32 → Int32 → Wd → Option (Int32 × Wd) := itr (fun _ _ _ => none) (fun R => b_X6_load_4 N R K42 K67 K91) n
set_option maxRecDepth 20000 in
theorem sl_X6_load_4 {E : Ev} (hL : LX E) {K42 : Wd → Option (Int32 × Wd)} (hK42 : ∀ (w : Wd), Sim E m_X6_load rI 42 [] [] w (K42  w)) {K67 : Wd → Option (Int32 × Wd)} (hK67 : ∀ (w : Wd), Sim E m_X6_load rI 67 [] [] w (K67  w)) {K91 : Int32 → Wd → Option (Int32 × Wd)} (hK91 : ∀ (v2 : Int32) (w : Wd), Sim E m_X6_load rI 91 [(2, .int v2)] [] w (K91 v2 w)) : ∀ (n : Nat) (v2 : Int32) (v3 : Int32) (w : Wd), Sim E m_X6_load rI 4 [(0, .ref (Ea E 22)), (1, .ref (Ea E 11)), (2, .int v2), (3, .int v3)] [] w (l_X6_load_4 (En E) K42 K67 K91 n v2 v3 w) := by
  intro n
  induction n with
  | zero => intros; exact sim_none
  | succ n ih => intros; exact sb_X6_load_4 hL (R := l_X6_load_4 (En E) K42 K67 K91 n) ih hK42 hK67 hK91 _ _ _
def f_X6_load_42 (N : Nat) (w : Wd) : Option (Int32 × Wd) :=
  some ((-1 : Int32), w)
set_option maxRecDepth 20000 in
theorem sf_X6_load_42 {E : Ev} (hL : LX E) (w : Wd) : Sim E m_X6_load rI 42 [] [] w (f_X6_load_42 (En E) w) := by
  unfold f_X6_load_42
  refine sim_iconst (-1 : Int32) dX6_load_42 rfl rfl ?_
  exact sim_iret rfl dX6_load_43
def f_X6_load_67 (N : Nat) (w : Wd) : Option (Int32 × Wd) :=
  some ((-1 : Int32), w)
set_option maxRecDepth 20000 in
theorem sf_X6_load_67 {E : Ev} (hL : LX E) (w : Wd) : Sim E m_X6_load rI 67 [] [] w (f_X6_load_67 (En E) w) := by
  unfold f_X6_load_67
  refine sim_iconst (-1 : Int32) dX6_load_67 rfl rfl ?_
  exact sim_iret rfl dX6_load_68
def f_X6_load_91 (N : Nat) (v2 : Int32) (w : Wd) : Option (Int32 × Wd) :=
  some (v2, w)
set_option maxRecDepth 20000 in
theorem sf_X6_load_91 {E : Ev} (hL : LX E) (v2 : Int32) (w : Wd) : Sim E m_X6_load rI 91 [(2, .int v2)] [] w (f_X6_load_91 (En E) v2 w) := by
  unfold f_X6_load_91
  refine sim_iload_n 0 dX6_load_91 rfl rfl ?_
  exact sim_iret rfl dX6_load_92
def f_X6_load (N : Nat) (w : Wd) : Option (Int32 × Wd) :=
  l_X6_load_4 N (f_X6_load_42 N) (f_X6_load_67 N) (f_X6_load_91 N) FU (0 : Int32) (0 : Int32) w
set_option maxRecDepth 20000 in
theorem c_X6_load {E : Ev} (hL : LX E) (w : Wd) : Ct E m_X6_load yX6_load rI [.ref (Ea E 22), .ref (Ea E 11)] w (f_X6_load (En E) w) := by
  refine Ct.of (by decide) ⟨rfl, rfl⟩ (Nat.le_of_ble_eq_true rfl) ?_
  show Sim E m_X6_load rI 0 [(0, .ref (Ea E 22)), (1, .ref (Ea E 11))] [] w (f_X6_load (En E) w)
  unfold f_X6_load
  refine sim_iconst (0 : Int32) dX6_load_0 rfl rfl ?_
  refine sim_istore_n [(2, .int (0 : Int32)), (0, .ref (Ea E 22)), (1, .ref (Ea E 11))] dX6_load_1 (Nat.le_of_ble_eq_true rfl) rfl rfl ?_
  refine sim_iconst (0 : Int32) dX6_load_2 rfl rfl ?_
  refine sim_istore_n [(3, .int (0 : Int32)), (2, .int (0 : Int32)), (0, .ref (Ea E 22)), (1, .ref (Ea E 11))] dX6_load_3 (Nat.le_of_ble_eq_true rfl) rfl rfl ?_
  exact sim_sub [2, 3, 1, 0] rfl (sl_X6_load_4 hL (sf_X6_load_42 hL) (sf_X6_load_67 hL) (sf_X6_load_91 hL) FU (0 : Int32) (0 : Int32) w)
