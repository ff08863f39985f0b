/-! words of the constructors, and their tails (made by gen/mkinit.py) -/
def inN (k : Nat) : Bool := decide (11 ≤ k) && decide (k ≤ 14)
def LN (E : Ev) : Prop := ∀ k, inN k = true → k ∈ El E
abbrev m_X8_init : Mt := (RX8, cX8_init, 3, none, 4, "<init>")
set_option maxRecDepth 20000 in
theorem cd_X8_init : Cond.code yX8_init cX8_init 3 none ∈ TB := TB_in (List.mem_of_getElem? (i := 100) rfl) rfl
theorem im_X8_init : Cond.instanceMethod yX8_init ∈ TB := TB_in (List.mem_of_getElem? (i := 99) (by decide +kernel)) rfl
abbrev m_X1_init : Mt := (RX1, cX1_init, 3, none, 2, "<init>")
set_option maxRecDepth 20000 in
theorem cd_X1_init : Cond.code yX1_init cX1_init 3 none ∈ TB := TB_in (List.mem_of_getElem? (i := 175) rfl) rfl
theorem im_X1_init : Cond.instanceMethod yX1_init ∈ TB := TB_in (List.mem_of_getElem? (i := 174) (by decide +kernel)) rfl
abbrev m_X6_init : Mt := (RX6, cX6_init, 2, none, 3, "<init>")
set_option maxRecDepth 20000 in
theorem cd_X6_init : Cond.code yX6_init cX6_init 2 none ∈ TB := TB_in (List.mem_of_getElem? (i := 199) rfl) rfl
theorem im_X6_init : Cond.instanceMethod yX6_init ∈ TB := TB_in (List.mem_of_getElem? (i := 198) (by decide +kernel)) rfl
abbrev m_X5_init : Mt := (RX5, cX5_init, 3, none, 3, "<init>")
set_option maxRecDepth 20000 in
theorem cd_X5_init : Cond.code yX5_init cX5_init 3 none ∈ TB := TB_in (List.mem_of_getElem? (i := 241) rfl) rfl
theorem im_X5_init : Cond.instanceMethod yX5_init ∈ TB := TB_in (List.mem_of_getElem? (i := 240) (by decide +kernel)) rfl
abbrev m_X0_init : Mt := (RX0, cX0_init, 3, none, 3, "<init>")
set_option maxRecDepth 20000 in
theorem cd_X0_init : Cond.code yX0_init cX0_init 3 none ∈ TB := TB_in (List.mem_of_getElem? (i := 261) rfl) rfl
theorem im_X0_init : Cond.instanceMethod yX0_init ∈ TB := TB_in (List.mem_of_getElem? (i := 260) (by decide +kernel)) rfl
abbrev m_X7_init : Mt := (RX7, cX7_init, 2, none, 3, "<init>")
set_option maxRecDepth 20000 in
theorem cd_X7_init : Cond.code yX7_init cX7_init 2 none ∈ TB := TB_in (List.mem_of_getElem? (i := 302) rfl) rfl
theorem im_X7_init : Cond.instanceMethod yX7_init ∈ TB := TB_in (List.mem_of_getElem? (i := 301) (by decide +kernel)) rfl
abbrev m_X4_init : Mt := (RX4, cX4_init, 2, none, 3, "<init>")
set_option maxRecDepth 20000 in
theorem cd_X4_init : Cond.code yX4_init cX4_init 2 none ∈ TB := TB_in (List.mem_of_getElem? (i := 320) rfl) rfl
theorem im_X4_init : Cond.instanceMethod yX4_init ∈ TB := TB_in (List.mem_of_getElem? (i := 319) (by decide +kernel)) rfl
abbrev m_X9_init : Mt := (RX9, cX9_init, 3, none, 5, "<init>")
set_option maxRecDepth 20000 in
theorem cd_X9_init : Cond.code yX9_init cX9_init 3 none ∈ TB := TB_in (List.mem_of_getElem? (i := 92) rfl) rfl
theorem im_X9_init : Cond.instanceMethod yX9_init ∈ TB := TB_in (List.mem_of_getElem? (i := 91) (by decide +kernel)) rfl
abbrev m_X10_init : Mt := (RX10, cX10_init, 3, none, 3, "<init>")
set_option maxRecDepth 20000 in
theorem cd_X10_init : Cond.code yX10_init cX10_init 3 none ∈ TB := TB_in (List.mem_of_getElem? (i := 949) rfl) rfl
theorem im_X10_init : Cond.instanceMethod yX10_init ∈ TB := TB_in (List.mem_of_getElem? (i := 948) (by decide +kernel)) rfl
theorem ml_X8_44 : Cond.methodLink RX8 44 yX8_linkField ∈ TB := TB_in (List.mem_of_getElem? (i := 102) (by decide +kernel)) rfl
theorem cb_X8_44 : CB RX8 44 yX8_linkField m_X8_linkField 1 := ⟨cd_X8_linkField, ml_X8_44, ini_X8, by decide +kernel⟩
theorem ml_X8_48 : Cond.methodLink RX8 48 yX8_markZones ∈ TB := TB_in (List.mem_of_getElem? (i := 110) (by decide +kernel)) rfl
theorem cb_X8_48 : CB RX8 48 yX8_markZones m_X8_markZones 1 := ⟨cd_X8_markZones, ml_X8_48, ini_X8, by decide +kernel⟩
theorem kl_X8_51 : Cond.fieldLink RX8 51 RX8 "FIRST_STEPS" "[I" ∈ TB := TB_in (List.mem_of_getElem? (i := 114) (by decide +kernel)) rfl
theorem kl_X8_54 : Cond.fieldLink RX8 54 RX8 "FIRST_RUNS" "[I" ∈ TB := TB_in (List.mem_of_getElem? (i := 116) (by decide +kernel)) rfl
theorem ml_X8_57 : Cond.methodLink RX8 57 yX8_tell ∈ TB := TB_in (List.mem_of_getElem? (i := 118) (by decide +kernel)) rfl
theorem cb_X8_57 : CB RX8 57 yX8_tell m_X8_tell 3 := ⟨cd_X8_tell, ml_X8_57, ini_X8, by decide +kernel⟩
theorem lk_X8_24 : Cond.fieldLink RX8 24 RX8 "marks" "[I" ∈ TB := TB_in (List.mem_of_getElem? (i := 145) (by decide +kernel)) rfl
theorem fl_X8_24 : FL RX8 24 6 9 := ⟨RX8, TX8, 10, rfl, by decide, tb_X8, lk_X8_24⟩
theorem fpf_X10_143 : FPF RX10 143 8 0 .int := ⟨RX10, TX10, 52, tyX10, rfl, by decide, tb_X10, lk_X10_143, tyX10_ok, nmX10, rfl, rfl, by decide +kernel⟩
theorem st_50_0 (a : Nat → Nat) (w : Wd) (v : Int32) : (fvs a w 50).set 0 (.int v) = fvs a (wdI w 50 0 v) 50 := rfl
theorem ob_X8_3 : Cond.methodLink RX8 3 Lib.objectInit ∈ TB := TB_in (by decide +kernel) rfl
theorem fpf_X8_9 : FPF RX8 9 6 5 (.array .int) := ⟨RX8, TX8, 10, tyX8, rfl, by decide, tb_X8, lk_X8_9, tyX8_ok, nmX8, rfl, rfl, by decide +kernel⟩
theorem fpf_X8_15 : FPF RX8 15 6 6 (.array .int) := ⟨RX8, TX8, 10, tyX8, rfl, by decide, tb_X8, lk_X8_15, tyX8_ok, nmX8, rfl, rfl, by decide +kernel⟩
theorem fpf_X8_18 : FPF RX8 18 6 7 (.array .int) := ⟨RX8, TX8, 10, tyX8, rfl, by decide, tb_X8, lk_X8_18, tyX8_ok, nmX8, rfl, rfl, by decide +kernel⟩
theorem fpf_X8_21 : FPF RX8 21 6 8 (.array .int) := ⟨RX8, TX8, 10, tyX8, rfl, by decide, tb_X8, lk_X8_21, tyX8_ok, nmX8, rfl, rfl, by decide +kernel⟩
theorem fpf_X8_24 : FPF RX8 24 6 9 (.array .int) := ⟨RX8, TX8, 10, tyX8, rfl, by decide, tb_X8, lk_X8_24, tyX8_ok, nmX8, rfl, rfl, by decide +kernel⟩
theorem fpf_X8_27 : FPF RX8 27 6 0 .int := ⟨RX8, TX8, 10, tyX8, rfl, by decide, tb_X8, lk_X8_27, tyX8_ok, nmX8, rfl, rfl, by decide +kernel⟩
theorem fpf_X8_31 : FPF RX8 31 6 1 .int := ⟨RX8, TX8, 10, tyX8, rfl, by decide, tb_X8, lk_X8_31, tyX8_ok, nmX8, rfl, rfl, by decide +kernel⟩
theorem fpf_X8_34 : FPF RX8 34 6 2 (.array .int) := ⟨RX8, TX8, 10, tyX8, rfl, by decide, tb_X8, lk_X8_34, tyX8_ok, nmX8, rfl, rfl, by decide +kernel⟩
theorem fpf_X8_37 : FPF RX8 37 6 3 (.array .int) := ⟨RX8, TX8, 10, tyX8, rfl, by decide, tb_X8, lk_X8_37, tyX8_ok, nmX8, rfl, rfl, by decide +kernel⟩
theorem fpf_X8_40 : FPF RX8 40 6 4 (.array .boolean) := ⟨RX8, TX8, 10, tyX8, rfl, by decide, tb_X8, lk_X8_40, tyX8_ok, nmX8, rfl, rfl, by decide +kernel⟩
theorem ob_X1_3 : Cond.methodLink RX1 3 Lib.objectInit ∈ TB := TB_in (by decide +kernel) rfl
theorem fpf_X1_9 : FPF RX1 9 1 0 .int := ⟨RX1, TX1, 4, tyX1, rfl, by decide, tb_X1, lk_X1_9, tyX1_ok, nmX1, rfl, rfl, by decide +kernel⟩
theorem fpf_X1_15 : FPF RX1 15 1 1 (.array .int) := ⟨RX1, TX1, 4, tyX1, rfl, by decide, tb_X1, lk_X1_15, tyX1_ok, nmX1, rfl, rfl, by decide +kernel⟩
theorem fpf_X1_19 : FPF RX1 19 1 2 (.array .int) := ⟨RX1, TX1, 4, tyX1, rfl, by decide, tb_X1, lk_X1_19, tyX1_ok, nmX1, rfl, rfl, by decide +kernel⟩
theorem cl_X1_22 : Cond.classLink RX1 22 "[[I" ∈ TB := TB_in (List.mem_of_getElem? (i := 177) (by decide +kernel)) rfl
theorem fpf_X1_24 : FPF RX1 24 1 3 (.array (.array .int)) := ⟨RX1, TX1, 4, tyX1, rfl, by decide, tb_X1, lk_X1_24, tyX1_ok, nmX1, rfl, rfl, by decide +kernel⟩
theorem ob_X6_3 : Cond.methodLink RX6 3 Lib.objectInit ∈ TB := TB_in (by decide +kernel) rfl
theorem fpf_X6_9 : FPF RX6 9 4 4 (.array .int) := ⟨RX6, TX6, 8, tyX6, rfl, by decide, tb_X6, lk_X6_9, tyX6_ok, nmX6, rfl, rfl, by decide +kernel⟩
theorem fpf_X6_15 : FPF RX6 15 4 5 (.array .int) := ⟨RX6, TX6, 8, tyX6, rfl, by decide, tb_X6, lk_X6_15, tyX6_ok, nmX6, rfl, rfl, by decide +kernel⟩
theorem fpf_X6_18 : FPF RX6 18 4 0 (.object "DropChase$Ways") := ⟨RX6, TX6, 8, tyX6, rfl, by decide, tb_X6, lk_X6_18, tyX6_ok, nmX6, rfl, rfl, by decide +kernel⟩
theorem lk_X6_22 : Cond.fieldLink RX6 22 RX8 "n" "I" ∈ TB := TB_in (List.mem_of_getElem? (i := 127) (by decide +kernel)) rfl
theorem fl_X6_22 : FL RX6 22 6 0 := ⟨RX8, TX8, 10, rfl, by decide, tb_X8, lk_X6_22⟩
theorem fpf_X6_28 : FPF RX6 28 4 1 .int := ⟨RX6, TX6, 8, tyX6, rfl, by decide, tb_X6, lk_X6_28, tyX6_ok, nmX6, rfl, rfl, by decide +kernel⟩
theorem lk_X6_29 : Cond.fieldLink RX6 29 RX8 "fields" "I" ∈ TB := TB_in (List.mem_of_getElem? (i := 131) (by decide +kernel)) rfl
theorem fl_X6_29 : FL RX6 29 6 1 := ⟨RX8, TX8, 10, rfl, by decide, tb_X8, lk_X6_29⟩
theorem fpf_X6_32 : FPF RX6 32 4 2 .int := ⟨RX6, TX6, 8, tyX6, rfl, by decide, tb_X6, lk_X6_32, tyX6_ok, nmX6, rfl, rfl, by decide +kernel⟩
theorem fpf_X6_33 : FPF RX6 33 4 3 (.array .int) := ⟨RX6, TX6, 8, tyX6, rfl, by decide, tb_X6, lk_X6_33, tyX6_ok, nmX6, rfl, rfl, by decide +kernel⟩
theorem fpf_X6_36 : FPF RX6 36 4 6 (.array .int) := ⟨RX6, TX6, 8, tyX6, rfl, by decide, tb_X6, lk_X6_36, tyX6_ok, nmX6, rfl, rfl, by decide +kernel⟩
theorem ob_X5_3 : Cond.methodLink RX5 3 Lib.objectInit ∈ TB := TB_in (by decide +kernel) rfl
theorem fpf_X5_9 : FPF RX5 9 3 0 (.object "DropChase$Ways") := ⟨RX5, TX5, 4, tyX5, rfl, by decide, tb_X5, lk_X5_9, tyX5_ok, nmX5, rfl, rfl, by decide +kernel⟩
theorem fpf_X5_13 : FPF RX5 13 3 1 (.object "DropChase$Table") := ⟨RX5, TX5, 4, tyX5, rfl, by decide, tb_X5, lk_X5_13, tyX5_ok, nmX5, rfl, rfl, by decide +kernel⟩
theorem fpf_X5_23 : FPF RX5 23 3 2 .int := ⟨RX5, TX5, 4, tyX5, rfl, by decide, tb_X5, lk_X5_23, tyX5_ok, nmX5, rfl, rfl, by decide +kernel⟩
theorem fpf_X5_26 : FPF RX5 26 3 3 (.array .int) := ⟨RX5, TX5, 4, tyX5, rfl, by decide, tb_X5, lk_X5_26, tyX5_ok, nmX5, rfl, rfl, by decide +kernel⟩
theorem ob_X0_3 : Cond.methodLink RX0 3 Lib.objectInit ∈ TB := TB_in (by decide +kernel) rfl
theorem fpf_X0_9 : FPF RX0 9 0 2 (.array .int) := ⟨RX0, TX0, 9, tyX0, rfl, by decide, tb_X0, lk_X0_9, tyX0_ok, nmX0, rfl, rfl, by decide +kernel⟩
theorem fpf_X0_15 : FPF RX0 15 0 3 (.array .int) := ⟨RX0, TX0, 9, tyX0, rfl, by decide, tb_X0, lk_X0_15, tyX0_ok, nmX0, rfl, rfl, by decide +kernel⟩
theorem fpf_X0_18 : FPF RX0 18 0 4 (.array .int) := ⟨RX0, TX0, 9, tyX0, rfl, by decide, tb_X0, lk_X0_18, tyX0_ok, nmX0, rfl, rfl, by decide +kernel⟩
theorem fp_X0_21 : FP RX0 21 0 6 .int := ⟨RX0, TX0, 9, tyX0, rfl, by decide, tb_X0, lk_X0_21, tyX0_ok, nmX0, rfl, by decide +kernel⟩
theorem fpf_X0_25 : FPF RX0 25 0 0 (.object "DropChase$Rules") := ⟨RX0, TX0, 9, tyX0, rfl, by decide, tb_X0, lk_X0_25, tyX0_ok, nmX0, rfl, rfl, by decide +kernel⟩
theorem fpf_X0_29 : FPF RX0 29 0 1 (.object "DropChase$Table") := ⟨RX0, TX0, 9, tyX0, rfl, by decide, tb_X0, lk_X0_29, tyX0_ok, nmX0, rfl, rfl, by decide +kernel⟩
theorem ob_X7_3 : Cond.methodLink RX7 3 Lib.objectInit ∈ TB := TB_in (by decide +kernel) rfl
theorem fpf_X7_11 : FPF RX7 11 5 1 (.array .int) := ⟨RX7, TX7, 3, tyX7, rfl, by decide, tb_X7, lk_X7_11, tyX7_ok, nmX7, rfl, rfl, by decide +kernel⟩
theorem fpf_X7_15 : FPF RX7 15 5 0 .int := ⟨RX7, TX7, 3, tyX7, rfl, by decide, tb_X7, lk_X7_15, tyX7_ok, nmX7, rfl, rfl, by decide +kernel⟩
theorem ob_X4_1 : Cond.methodLink RX4 1 Lib.objectInit ∈ TB := TB_in (by decide +kernel) rfl
theorem fpf_X4_9 : FPF RX4 9 2 1 (.array .int) := ⟨RX4, TX4, 9, tyX4, rfl, by decide, tb_X4, lk_X4_9, tyX4_ok, nmX4, rfl, rfl, by decide +kernel⟩
theorem fpf_X4_13 : FPF RX4 13 2 2 (.array .boolean) := ⟨RX4, TX4, 9, tyX4, rfl, by decide, tb_X4, lk_X4_13, tyX4_ok, nmX4, rfl, rfl, by decide +kernel⟩
theorem fpf_X4_17 : FPF RX4 17 2 3 (.array .long) := ⟨RX4, TX4, 9, tyX4, rfl, by decide, tb_X4, lk_X4_17, tyX4_ok, nmX4, rfl, rfl, by decide +kernel⟩
theorem fpf_X4_21 : FPF RX4 21 2 0 (.object "DropChase$Table") := ⟨RX4, TX4, 9, tyX4, rfl, by decide, tb_X4, lk_X4_21, tyX4_ok, nmX4, rfl, rfl, by decide +kernel⟩
theorem ob_X9_1 : Cond.methodLink RX9 1 Lib.objectInit ∈ TB := TB_in (by decide +kernel) rfl
theorem fpf_X9_7 : FPF RX9 7 7 3 (.array .int) := ⟨RX9, TX9, 13, tyX9, rfl, by decide, tb_X9, lk_X9_7, tyX9_ok, nmX9, rfl, rfl, by decide +kernel⟩
theorem fpf_X9_13 : FPF RX9 13 7 0 .int := ⟨RX9, TX9, 13, tyX9, rfl, by decide, tb_X9, lk_X9_13, tyX9_ok, nmX9, rfl, rfl, by decide +kernel⟩
theorem cl_X9_17 : Cond.classLink RX9 17 RX8 ∈ TB := TB_in (List.mem_of_getElem? (i := 96) (by decide +kernel)) rfl
theorem is_X8 : Cond.instantiable RX8 10 ∈ TB := TB_in (List.mem_of_getElem? (i := 97) (by decide +kernel)) rfl
theorem ml_X9_19 : Cond.methodLink RX9 19 yX8_init ∈ TB := TB_in (List.mem_of_getElem? (i := 98) (by decide +kernel)) rfl
theorem fpf_X9_22 : FPF RX9 22 7 1 (.object "DropChase$Ways") := ⟨RX9, TX9, 13, tyX9, rfl, by decide, tb_X9, lk_X9_22, tyX9_ok, nmX9, rfl, rfl, by decide +kernel⟩
theorem cl_X9_26 : Cond.classLink RX9 26 RX1 ∈ TB := TB_in (List.mem_of_getElem? (i := 171) (by decide +kernel)) rfl
theorem is_X1 : Cond.instantiable RX1 4 ∈ TB := TB_in (List.mem_of_getElem? (i := 172) (by decide +kernel)) rfl
theorem ml_X9_28 : Cond.methodLink RX9 28 yX1_init ∈ TB := TB_in (List.mem_of_getElem? (i := 173) (by decide +kernel)) rfl
theorem fpf_X9_29 : FPF RX9 29 7 2 (.object "DropChase$Lines") := ⟨RX9, TX9, 13, tyX9, rfl, by decide, tb_X9, lk_X9_29, tyX9_ok, nmX9, rfl, rfl, by decide +kernel⟩
theorem cl_X9_33 : Cond.classLink RX9 33 RX6 ∈ TB := TB_in (List.mem_of_getElem? (i := 195) (by decide +kernel)) rfl
theorem is_X6 : Cond.instantiable RX6 8 ∈ TB := TB_in (List.mem_of_getElem? (i := 196) (by decide +kernel)) rfl
theorem ml_X9_35 : Cond.methodLink RX9 35 yX6_init ∈ TB := TB_in (List.mem_of_getElem? (i := 197) (by decide +kernel)) rfl
theorem fpf_X9_38 : FPF RX9 38 7 4 (.object "DropChase$Table") := ⟨RX9, TX9, 13, tyX9, rfl, by decide, tb_X9, lk_X9_38, tyX9_ok, nmX9, rfl, rfl, by decide +kernel⟩
theorem cl_X9_42 : Cond.classLink RX9 42 RX5 ∈ TB := TB_in (List.mem_of_getElem? (i := 237) (by decide +kernel)) rfl
theorem is_X5 : Cond.instantiable RX5 4 ∈ TB := TB_in (List.mem_of_getElem? (i := 238) (by decide +kernel)) rfl
theorem ml_X9_44 : Cond.methodLink RX9 44 yX5_init ∈ TB := TB_in (List.mem_of_getElem? (i := 239) (by decide +kernel)) rfl
theorem fpf_X9_47 : FPF RX9 47 7 5 (.object "DropChase$Rules") := ⟨RX9, TX9, 13, tyX9, rfl, by decide, tb_X9, lk_X9_47, tyX9_ok, nmX9, rfl, rfl, by decide +kernel⟩
theorem cl_X9_51 : Cond.classLink RX9 51 RX0 ∈ TB := TB_in (List.mem_of_getElem? (i := 257) (by decide +kernel)) rfl
theorem is_X0 : Cond.instantiable RX0 9 ∈ TB := TB_in (List.mem_of_getElem? (i := 258) (by decide +kernel)) rfl
theorem ml_X9_53 : Cond.methodLink RX9 53 yX0_init ∈ TB := TB_in (List.mem_of_getElem? (i := 259) (by decide +kernel)) rfl
theorem fpf_X9_56 : FPF RX9 56 7 6 (.object "DropChase$Chase") := ⟨RX9, TX9, 13, tyX9, rfl, by decide, tb_X9, lk_X9_56, tyX9_ok, nmX9, rfl, rfl, by decide +kernel⟩
theorem cl_X9_60 : Cond.classLink RX9 60 RX7 ∈ TB := TB_in (List.mem_of_getElem? (i := 298) (by decide +kernel)) rfl
theorem is_X7 : Cond.instantiable RX7 3 ∈ TB := TB_in (List.mem_of_getElem? (i := 299) (by decide +kernel)) rfl
theorem ml_X9_62 : Cond.methodLink RX9 62 yX7_init ∈ TB := TB_in (List.mem_of_getElem? (i := 300) (by decide +kernel)) rfl
theorem fpf_X9_63 : FPF RX9 63 7 7 (.object "DropChase$Text") := ⟨RX9, TX9, 13, tyX9, rfl, by decide, tb_X9, lk_X9_63, tyX9_ok, nmX9, rfl, rfl, by decide +kernel⟩
theorem cl_X9_67 : Cond.classLink RX9 67 RX4 ∈ TB := TB_in (List.mem_of_getElem? (i := 316) (by decide +kernel)) rfl
theorem is_X4 : Cond.instantiable RX4 9 ∈ TB := TB_in (List.mem_of_getElem? (i := 317) (by decide +kernel)) rfl
theorem ml_X9_69 : Cond.methodLink RX9 69 yX4_init ∈ TB := TB_in (List.mem_of_getElem? (i := 318) (by decide +kernel)) rfl
theorem ob_X10_1 : Cond.methodLink RX10 1 Lib.objectInit ∈ TB := TB_in (by decide +kernel) rfl
theorem fpf_X10_7 : FPF RX10 7 8 2 (.array .int) := ⟨RX10, TX10, 52, tyX10, rfl, by decide, tb_X10, lk_X10_7, tyX10_ok, nmX10, rfl, rfl, by decide +kernel⟩
theorem fpf_X10_13 : FPF RX10 13 8 3 (.array .int) := ⟨RX10, TX10, 52, tyX10, rfl, by decide, tb_X10, lk_X10_13, tyX10_ok, nmX10, rfl, rfl, by decide +kernel⟩
theorem fpf_X10_16 : FPF RX10 16 8 4 (.array .int) := ⟨RX10, TX10, 52, tyX10, rfl, by decide, tb_X10, lk_X10_16, tyX10_ok, nmX10, rfl, rfl, by decide +kernel⟩
theorem fpf_X10_19 : FPF RX10 19 8 5 (.array .int) := ⟨RX10, TX10, 52, tyX10, rfl, by decide, tb_X10, lk_X10_19, tyX10_ok, nmX10, rfl, rfl, by decide +kernel⟩
theorem fpf_X10_22 : FPF RX10 22 8 6 (.array .int) := ⟨RX10, TX10, 52, tyX10, rfl, by decide, tb_X10, lk_X10_22, tyX10_ok, nmX10, rfl, rfl, by decide +kernel⟩
theorem fpf_X10_25 : FPF RX10 25 8 7 (.array .int) := ⟨RX10, TX10, 52, tyX10, rfl, by decide, tb_X10, lk_X10_25, tyX10_ok, nmX10, rfl, rfl, by decide +kernel⟩
theorem fpf_X10_28 : FPF RX10 28 8 8 (.array .int) := ⟨RX10, TX10, 52, tyX10, rfl, by decide, tb_X10, lk_X10_28, tyX10_ok, nmX10, rfl, rfl, by decide +kernel⟩
theorem fpf_X10_31 : FPF RX10 31 8 9 (.array .int) := ⟨RX10, TX10, 52, tyX10, rfl, by decide, tb_X10, lk_X10_31, tyX10_ok, nmX10, rfl, rfl, by decide +kernel⟩
theorem fpf_X10_34 : FPF RX10 34 8 10 (.array .int) := ⟨RX10, TX10, 52, tyX10, rfl, by decide, tb_X10, lk_X10_34, tyX10_ok, nmX10, rfl, rfl, by decide +kernel⟩
theorem fpf_X10_37 : FPF RX10 37 8 11 (.array .int) := ⟨RX10, TX10, 52, tyX10, rfl, by decide, tb_X10, lk_X10_37, tyX10_ok, nmX10, rfl, rfl, by decide +kernel⟩
theorem fpf_X10_40 : FPF RX10 40 8 12 (.array .int) := ⟨RX10, TX10, 52, tyX10, rfl, by decide, tb_X10, lk_X10_40, tyX10_ok, nmX10, rfl, rfl, by decide +kernel⟩
theorem fpf_X10_43 : FPF RX10 43 8 13 (.array .int) := ⟨RX10, TX10, 52, tyX10, rfl, by decide, tb_X10, lk_X10_43, tyX10_ok, nmX10, rfl, rfl, by decide +kernel⟩
theorem fpf_X10_46 : FPF RX10 46 8 14 (.array .int) := ⟨RX10, TX10, 52, tyX10, rfl, by decide, tb_X10, lk_X10_46, tyX10_ok, nmX10, rfl, rfl, by decide +kernel⟩
theorem fpf_X10_49 : FPF RX10 49 8 15 (.array .int) := ⟨RX10, TX10, 52, tyX10, rfl, by decide, tb_X10, lk_X10_49, tyX10_ok, nmX10, rfl, rfl, by decide +kernel⟩
theorem fpf_X10_52 : FPF RX10 52 8 16 (.array .int) := ⟨RX10, TX10, 52, tyX10, rfl, by decide, tb_X10, lk_X10_52, tyX10_ok, nmX10, rfl, rfl, by decide +kernel⟩
theorem fpf_X10_55 : FPF RX10 55 8 17 (.array .int) := ⟨RX10, TX10, 52, tyX10, rfl, by decide, tb_X10, lk_X10_55, tyX10_ok, nmX10, rfl, rfl, by decide +kernel⟩
theorem fpf_X10_58 : FPF RX10 58 8 18 (.array .int) := ⟨RX10, TX10, 52, tyX10, rfl, by decide, tb_X10, lk_X10_58, tyX10_ok, nmX10, rfl, rfl, by decide +kernel⟩
theorem fpf_X10_61 : FPF RX10 61 8 19 (.array .int) := ⟨RX10, TX10, 52, tyX10, rfl, by decide, tb_X10, lk_X10_61, tyX10_ok, nmX10, rfl, rfl, by decide +kernel⟩
theorem fpf_X10_64 : FPF RX10 64 8 20 (.array .int) := ⟨RX10, TX10, 52, tyX10, rfl, by decide, tb_X10, lk_X10_64, tyX10_ok, nmX10, rfl, rfl, by decide +kernel⟩
theorem fpf_X10_67 : FPF RX10 67 8 21 (.array .int) := ⟨RX10, TX10, 52, tyX10, rfl, by decide, tb_X10, lk_X10_67, tyX10_ok, nmX10, rfl, rfl, by decide +kernel⟩
theorem fpf_X10_70 : FPF RX10 70 8 23 (.array .int) := ⟨RX10, TX10, 52, tyX10, rfl, by decide, tb_X10, lk_X10_70, tyX10_ok, nmX10, rfl, rfl, by decide +kernel⟩
theorem fpf_X10_73 : FPF RX10 73 8 24 (.array .boolean) := ⟨RX10, TX10, 52, tyX10, rfl, by decide, tb_X10, lk_X10_73, tyX10_ok, nmX10, rfl, rfl, by decide +kernel⟩
theorem fpf_X10_77 : FPF RX10 77 8 26 (.array .int) := ⟨RX10, TX10, 52, tyX10, rfl, by decide, tb_X10, lk_X10_77, tyX10_ok, nmX10, rfl, rfl, by decide +kernel⟩
theorem fpf_X10_80 : FPF RX10 80 8 27 (.array .int) := ⟨RX10, TX10, 52, tyX10, rfl, by decide, tb_X10, lk_X10_80, tyX10_ok, nmX10, rfl, rfl, by decide +kernel⟩
theorem fpf_X10_83 : FPF RX10 83 8 28 (.array .int) := ⟨RX10, TX10, 52, tyX10, rfl, by decide, tb_X10, lk_X10_83, tyX10_ok, nmX10, rfl, rfl, by decide +kernel⟩
theorem fpf_X10_86 : FPF RX10 86 8 29 (.array .int) := ⟨RX10, TX10, 52, tyX10, rfl, by decide, tb_X10, lk_X10_86, tyX10_ok, nmX10, rfl, rfl, by decide +kernel⟩
theorem fpf_X10_89 : FPF RX10 89 8 30 (.array .int) := ⟨RX10, TX10, 52, tyX10, rfl, by decide, tb_X10, lk_X10_89, tyX10_ok, nmX10, rfl, rfl, by decide +kernel⟩
theorem fpf_X10_92 : FPF RX10 92 8 31 (.array .int) := ⟨RX10, TX10, 52, tyX10, rfl, by decide, tb_X10, lk_X10_92, tyX10_ok, nmX10, rfl, rfl, by decide +kernel⟩
theorem fpf_X10_95 : FPF RX10 95 8 32 (.array .int) := ⟨RX10, TX10, 52, tyX10, rfl, by decide, tb_X10, lk_X10_95, tyX10_ok, nmX10, rfl, rfl, by decide +kernel⟩
theorem fpf_X10_98 : FPF RX10 98 8 33 (.array .int) := ⟨RX10, TX10, 52, tyX10, rfl, by decide, tb_X10, lk_X10_98, tyX10_ok, nmX10, rfl, rfl, by decide +kernel⟩
theorem fpf_X10_101 : FPF RX10 101 8 34 (.array .boolean) := ⟨RX10, TX10, 52, tyX10, rfl, by decide, tb_X10, lk_X10_101, tyX10_ok, nmX10, rfl, rfl, by decide +kernel⟩
theorem fpf_X10_108 : FPF RX10 108 8 42 (.array .int) := ⟨RX10, TX10, 52, tyX10, rfl, by decide, tb_X10, lk_X10_108, tyX10_ok, nmX10, rfl, rfl, by decide +kernel⟩
theorem fpf_X10_111 : FPF RX10 111 8 43 (.array .int) := ⟨RX10, TX10, 52, tyX10, rfl, by decide, tb_X10, lk_X10_111, tyX10_ok, nmX10, rfl, rfl, by decide +kernel⟩
theorem fpf_X10_114 : FPF RX10 114 8 44 (.array .int) := ⟨RX10, TX10, 52, tyX10, rfl, by decide, tb_X10, lk_X10_114, tyX10_ok, nmX10, rfl, rfl, by decide +kernel⟩
theorem fpf_X10_117 : FPF RX10 117 8 45 (.array .int) := ⟨RX10, TX10, 52, tyX10, rfl, by decide, tb_X10, lk_X10_117, tyX10_ok, nmX10, rfl, rfl, by decide +kernel⟩
theorem fpf_X10_120 : FPF RX10 120 8 46 (.array .int) := ⟨RX10, TX10, 52, tyX10, rfl, by decide, tb_X10, lk_X10_120, tyX10_ok, nmX10, rfl, rfl, by decide +kernel⟩
theorem fpf_X10_123 : FPF RX10 123 8 47 (.array .int) := ⟨RX10, TX10, 52, tyX10, rfl, by decide, tb_X10, lk_X10_123, tyX10_ok, nmX10, rfl, rfl, by decide +kernel⟩
theorem fpf_X10_126 : FPF RX10 126 8 48 (.array .int) := ⟨RX10, TX10, 52, tyX10, rfl, by decide, tb_X10, lk_X10_126, tyX10_ok, nmX10, rfl, rfl, by decide +kernel⟩
theorem fpf_X10_129 : FPF RX10 129 8 49 (.array .int) := ⟨RX10, TX10, 52, tyX10, rfl, by decide, tb_X10, lk_X10_129, tyX10_ok, nmX10, rfl, rfl, by decide +kernel⟩
theorem fpf_X10_132 : FPF RX10 132 8 51 (.array .int) := ⟨RX10, TX10, 52, tyX10, rfl, by decide, tb_X10, lk_X10_132, tyX10_ok, nmX10, rfl, rfl, by decide +kernel⟩
theorem cl_L_7 : Cond.classLink "DropChaseLaw" 7 RX9 ∈ TB := TB_in (List.mem_of_getElem? (i := 88) (by decide +kernel)) rfl
theorem is_X9 : Cond.instantiable RX9 13 ∈ TB := TB_in (List.mem_of_getElem? (i := 89) (by decide +kernel)) rfl
theorem cl_L_18 : Cond.classLink "DropChaseLaw" 18 RX10 ∈ TB := TB_in (List.mem_of_getElem? (i := 945) (by decide +kernel)) rfl
theorem is_X10 : Cond.instantiable RX10 52 ∈ TB := TB_in (List.mem_of_getElem? (i := 946) (by decide +kernel)) rfl
theorem ob_i : Cond.instanceMethod Lib.objectInit ∈ TB := TB_in (by decide +kernel) rfl
set_option maxRecDepth 20000 in
theorem ob_c : Cond.code Lib.objectInit ⟨#[0xb1]⟩ 1 none ∈ TB := TB_in (by decide +kernel) rfl
theorem ac_I : Cond.arrayClass .int ∈ TB := TB_in (by decide +kernel) rfl
theorem ac_J : Cond.arrayClass .long ∈ TB := TB_in (by decide +kernel) rfl
theorem ac_Z : Cond.arrayClass .boolean ∈ TB := TB_in (by decide +kernel) rfl
def b_X8_init_93 (N : Nat) (R : Int32 → Wd → Option (Unit × Wd)) (K117 : Wd → Option (Unit × Wd)) (v2 : Int32) (w : Wd) : Option (Unit × Wd) :=
  if (w.1 2 1) ≤ v2 then
  K117 w
  else
  bd (f_X8_linkField N v2 w) fun _ w1 =>
  bd (f_X8_markZones N v2 w1) fun _ w2 =>
  R (v2 + (1 : Int32)) w2
set_option maxRecDepth 20000 in
theorem sb_X8_init_93 {E : Ev} (hL : LW E) {R : Int32 → Wd → Option (Unit × Wd)} (hR : ∀ (v2 : Int32) (w : Wd), Sim E m_X8_init rV 93 [(0, .ref (Ea E 2)), (2, .int v2)] [] w (R v2 w)) {K117 : Wd → Option (Unit × Wd)} (hK117 : ∀ (w : Wd), Sim E m_X8_init rV 117 [(0, .ref (Ea E 2))] [] w (K117  w)) (v2 : Int32) (w : Wd) : Sim E m_X8_init rV 93 [(0, .ref (Ea E 2)), (2, .int v2)] [] w (b_X8_init_93 (En E) R K117 v2 w) := by
  unfold b_X8_init_93
  refine sim_iload_n 1 dX8_init_93 rfl rfl ?_
  refine sim_aload_n 0 dX8_init_94 rfl rfl ?_
  refine sim_get (k := 2) (ci := 6) (j := 1) (v := .int (w.1 2 1)) (hL 2 rfl) rfl (by decide) fl_X8_31 rfl dX8_init_95 rfl ?_
  refine sim_icmp_ge 117 dX8_init_98 rfl rfl (fun _ => ?_) (fun _ => ?_)
  · exact sim_sub [0] rfl (hK117 w)
  · refine sim_aload_n 0 dX8_init_101 rfl rfl ?_
    refine sim_iload_n 1 dX8_init_102 rfl rfl ?_
    refine sim_cVv (k := 2) (ci := 6) [.int v2] [] (c_X8_linkField hL v2 w) (hL 2 rfl) rfl (by decide) rfl cb_X8_44 im_X8_linkField se_X8_linkField rfl rfl rfl (Nat.le_of_ble_eq_true rfl) dX8_init_103 rfl (fun _ w1 => ?_)
    refine sim_aload_n 0 dX8_init_106 rfl rfl ?_
    refine sim_iload_n 1 dX8_init_107 rfl rfl ?_
    refine sim_cVv (k := 2) (ci := 6) [.int v2] [] (c_X8_markZones hL v2 w1) (hL 2 rfl) rfl (by decide) rfl cb_X8_48 im_X8_markZones se_X8_markZones rfl rfl rfl (Nat.le_of_ble_eq_true rfl) dX8_init_108 rfl (fun _ w2 => ?_)
    refine sim_iinc (v2 + (1 : Int32)) 1 [(2, .int (v2 + (1 : Int32))), (0, .ref (Ea E 2))] dX8_init_111 rfl rfl (Nat.le_of_ble_eq_true rfl) rfl rfl ?_
    refine sim_goto (q := 93) dX8_init_114 rfl ?_
    exact sim_sub [1, 0] rfl (hR (v2 + (1 : Int32)) w2)
def l_X8_init_93 (N : Nat) (K117 : Wd → Option (Unit × Wd)) (n : Nat) : Int32 → Wd → Option (Unit × Wd) := itr (fun _ _ => none) (fun R => b_X8_init_93 N R K117) n
set_option maxRecDepth 20000 in
theorem sl_X8_init_93 {E : Ev} (hL : LW E) {K117 : Wd → Option (Unit × Wd)} (hK117 : ∀ (w : Wd), Sim E m_X8_init rV 117 [(0, .ref (Ea E 2))] [] w (K117  w)) : ∀ (n : Nat) (v2 : Int32) (w : Wd), Sim E m_X8_init rV 93 [(0, .ref (Ea E 2)), (2, .int v2)] [] w (l_X8_init_93 (En E) K117 n v2 w) := by
  intro n
  induction n with
  | zero => intros; exact sim_none
  | succ n ih => intros; exact sb_X8_init_93 hL (R := l_X8_init_93 (En E) K117 n) ih hK117 _ _
def b_X8_init_119 (N : Nat) (R : Int32 → Wd → Option (Unit × Wd)) (K146 : Wd → Option (Unit × Wd)) (v2 : Int32) (w : Wd) : Option (Unit × Wd) :=
  if (16 : Int32) ≤ v2 then
  K146 w
  else
  if inb v2 16 = true then
  if inb v2 16 = true then
  bd (f_X8_tell N v2 ((stV 3).getD (Int32.toNatClampNeg v2) 0) ((stV 4).getD (Int32.toNatClampNeg v2) 0) w) fun _ w3 =>
  R (v2 + (1 : Int32)) w3
  else none
  else none
set_option maxRecDepth 20000 in
theorem sb_X8_init_119 {E : Ev} (hL : LW E) {R : Int32 → Wd → Option (Unit × Wd)} (hR : ∀ (v2 : Int32) (w : Wd), Sim E m_X8_init rV 119 [(0, .ref (Ea E 2)), (2, .int v2)] [] w (R v2 w)) {K146 : Wd → Option (Unit × Wd)} (hK146 : ∀ (w : Wd), Sim E m_X8_init rV 146 [(0, .ref (Ea E 2))] [] w (K146  w)) (v2 : Int32) (w : Wd) : Sim E m_X8_init rV 119 [(0, .ref (Ea E 2)), (2, .int v2)] [] w (b_X8_init_119 (En E) R K146 v2 w) := by
  unfold b_X8_init_119
  refine sim_iload_n 1 dX8_init_119 rfl rfl ?_
  refine sim_bipush (16 : Int32) dX8_init_120 rfl rfl ?_
  refine sim_icmp_ge 146 dX8_init_122 rfl rfl (fun _ => ?_) (fun _ => ?_)
  · exact sim_sub [0] rfl (hK146 w)
  · refine sim_aload_n 0 dX8_init_125 rfl rfl ?_
    refine sim_iload_n 1 dX8_init_126 rfl rfl ?_
    refine sim_gets (j := 3) (nm := "FIRST_STEPS") (by decide) rfl kl_X8_51 dX8_init_127 rfl ?_
    refine sim_iload_n 1 dX8_init_130 rfl rfl ?_
    refine sim_tload (j := 3) (n := 16) (by decide) rfl dX8_init_131 rfl ?_
    refine sim_gets (j := 4) (nm := "FIRST_RUNS") (by decide) rfl kl_X8_54 dX8_init_132 rfl ?_
    refine sim_iload_n 1 dX8_init_135 rfl rfl ?_
    refine sim_tload (j := 4) (n := 16) (by decide) rfl dX8_init_136 rfl ?_
    refine sim_cVv (k := 2) (ci := 6) [.int v2, .int ((stV 3).getD (Int32.toNatClampNeg v2) 0), .int ((stV 4).getD (Int32.toNatClampNeg v2) 0)] [] (c_X8_tell hL v2 ((stV 3).getD (Int32.toNatClampNeg v2) 0) ((stV 4).getD (Int32.toNatClampNeg v2) 0) w) (hL 2 rfl) rfl (by decide) rfl cb_X8_57 im_X8_tell se_X8_tell rfl rfl rfl (Nat.le_of_ble_eq_true rfl) dX8_init_137 rfl (fun _ w3 => ?_)
    refine sim_iinc (v2 + (1 : Int32)) 1 [(2, .int (v2 + (1 : Int32))), (0, .ref (Ea E 2))] dX8_init_140 rfl rfl (Nat.le_of_ble_eq_true rfl) rfl rfl ?_
    refine sim_goto (q := 119) dX8_init_143 rfl ?_
    exact sim_sub [1, 0] rfl (hR (v2 + (1 : Int32)) w3)
def l_X8_init_119 (N : Nat) (K146 : Wd → Option (Unit × Wd)) (n : Nat) : Int32 → Wd → Option (Unit × Wd) := itr (fun _ _ => none) (fun R => b_X8_init_119 N R K146) n
set_option maxRecDepth 20000 in
theorem sl_X8_init_119 {E : Ev} (hL : LW E) {K146 : Wd → Option (Unit × Wd)} (hK146 : ∀ (w : Wd), Sim E m_X8_init rV 146 [(0, .ref (Ea E 2))] [] w (K146  w)) : ∀ (n : Nat) (v2 : Int32) (w : Wd), Sim E m_X8_init rV 119 [(0, .ref (Ea E 2)), (2, .int v2)] [] w (l_X8_init_119 (En E) K146 n v2 w) := by
  intro n
  induction n with
  | zero => intros; exact sim_none
  | succ n ih => intros; exact sb_X8_init_119 hL (R := l_X8_init_119 (En E) K146 n) ih hK146 _ _
def f_X8_init_146 (N : Nat) (w : Wd) : Option (Unit × Wd) :=
  if inb (1 : Int32) 8 = true then
  lw (wdI w 10 (Int32.toNatClampNeg (1 : Int32)) (3 : Int32)) fun w4 =>
  some ((), w4)
  else none
set_option maxRecDepth 20000 in
theorem sf_X8_init_146 {E : Ev} (hL : LW E) (w : Wd) : Sim E m_X8_init rV 146 [(0, .ref (Ea E 2))] [] w (f_X8_init_146 (En E) w) := by
  unfold f_X8_init_146
  refine sim_aload_n 0 dX8_init_146 rfl rfl ?_
  refine sim_get (k := 2) (ci := 6) (j := 9) (v := .ref (Ea E 10)) (hL 2 rfl) rfl (by decide) fl_X8_24 rfl dX8_init_147 rfl ?_
  refine sim_iconst (1 : Int32) dX8_init_150 rfl rfl ?_
  refine sim_iconst (3 : Int32) dX8_init_151 rfl rfl ?_
  refine sim_iastore (k := 10) (hL 10 rfl) rfl rfl dX8_init_152 rfl ?_
  refine sim_lw (fun w4 => ?_)
  exact sim_vret rfl dX8_init_153
def f_X8_init_117 (N : Nat) (w : Wd) : Option (Unit × Wd) :=
  l_X8_init_119 N (f_X8_init_146 N) FU (0 : Int32) w
set_option maxRecDepth 20000 in
theorem sf_X8_init_117 {E : Ev} (hL : LW E) (w : Wd) : Sim E m_X8_init rV 117 [(0, .ref (Ea E 2))] [] w (f_X8_init_117 (En E) w) := by
  unfold f_X8_init_117
  refine sim_iconst (0 : Int32) dX8_init_117 rfl rfl ?_
  refine sim_istore_n [(2, .int (0 : Int32)), (0, .ref (Ea E 2))] dX8_init_118 (Nat.le_of_ble_eq_true rfl) rfl rfl ?_
  exact sim_sub [1, 0] rfl (sl_X8_init_119 hL (sf_X8_init_146 hL) FU (0 : Int32) w)
def f_X8_init (N : Nat) (v1 : Int32) (w : Wd) : Option (Unit × Wd) :=
  l_X8_init_93 N (f_X8_init_117 N) FU (0 : Int32) w
set_option maxRecDepth 20000 in
theorem s_X8_init {E : Ev} (hL : LW E) (v1 : Int32) (w : Wd) : Sim E m_X8_init rV 91 [(0, .ref (Ea E 2)), (1, .int v1)] [] w (f_X8_init (En E) v1 w) := by
  unfold f_X8_init
  refine sim_iconst (0 : Int32) dX8_init_91 rfl rfl ?_
  refine sim_istore_n [(2, .int (0 : Int32)), (0, .ref (Ea E 2)), (1, .int v1)] dX8_init_92 (Nat.le_of_ble_eq_true rfl) rfl rfl ?_
  exact sim_sub [1, 0] rfl (sl_X8_init_93 hL (sf_X8_init_117 hL) FU (0 : Int32) w)
def b_X1_init_36 (N : Nat) (R : Int32 → Int32 → Wd → Option (Unit × Wd)) (K54 : Wd → Option (Unit × Wd)) (v1 : Int32) (v2 : Int32) (w : Wd) : Option (Unit × Wd) :=
  if v1 ≤ v2 then
  K54 w
  else
  if inb v2 N = true then
  lw (wdI w 13 (Int32.toNatClampNeg v2) (-1 : Int32)) fun w1 =>
  R v1 (v2 + (1 : Int32)) w1
  else none
set_option maxRecDepth 20000 in
theorem sb_X1_init_36 {E : Ev} (hL : LN E) {R : Int32 → Int32 → Wd → Option (Unit × Wd)} (hR : ∀ (v1 : Int32) (v2 : Int32) (w : Wd), Sim E m_X1_init rV 36 [(0, .ref (Ea E 11)), (1, .int v1), (2, .int v2)] [] w (R v1 v2 w)) {K54 : Wd → Option (Unit × Wd)} (hK54 : ∀ (w : Wd), Sim E m_X1_init rV 54 [] [] w (K54  w)) (v1 : Int32) (v2 : Int32) (w : Wd) : Sim E m_X1_init rV 36 [(0, .ref (Ea E 11)), (1, .int v1), (2, .int v2)] [] w (b_X1_init_36 (En E) R K54 v1 v2 w) := by
  unfold b_X1_init_36
  refine sim_iload_n 2 dX1_init_36 rfl rfl ?_
  refine sim_iload_n 1 dX1_init_37 rfl rfl ?_
  refine sim_icmp_ge 54 dX1_init_38 rfl rfl (fun _ => ?_) (fun _ => ?_)
  · exact sim_sub [] rfl (hK54 w)
  · refine sim_aload_n 0 dX1_init_41 rfl rfl ?_
    refine sim_get (k := 11) (ci := 1) (j := 2) (v := .ref (Ea E 13)) (hL 11 rfl) rfl (by decide) fl_X1_19 rfl dX1_init_42 rfl ?_
    refine sim_iload_n 2 dX1_init_45 rfl rfl ?_
    refine sim_iconst (-1 : Int32) dX1_init_46 rfl rfl ?_
    refine sim_iastore (k := 13) (hL 13 rfl) rfl rfl dX1_init_47 rfl ?_
    refine sim_lw (fun w1 => ?_)
    refine sim_iinc (v2 + (1 : Int32)) 2 [(2, .int (v2 + (1 : Int32))), (0, .ref (Ea E 11)), (1, .int v1)] dX1_init_48 rfl rfl (Nat.le_of_ble_eq_true rfl) rfl rfl ?_
    refine sim_goto (q := 36) dX1_init_51 rfl ?_
    exact sim_sub [1, 2, 0] rfl (hR v1 (v2 + (1 : Int32)) w1)
def l_X1_init_36 (N : Nat) (K54 : Wd → Option (Unit × Wd)) (n : Nat) : Int32 → Int32 → Wd → Option (Unit × Wd) := itr (fun _ _ _ => none) (fun R => b_X1_init_36 N R K54) n
set_option maxRecDepth 20000 in
theorem sl_X1_init_36 {E : Ev} (hL : LN E) {K54 : Wd → Option (Unit × Wd)} (hK54 : ∀ (w : Wd), Sim E m_X1_init rV 54 [] [] w (K54  w)) : ∀ (n : Nat) (v1 : Int32) (v2 : Int32) (w : Wd), Sim E m_X1_init rV 36 [(0, .ref (Ea E 11)), (1, .int v1), (2, .int v2)] [] w (l_X1_init_36 (En E) K54 n v1 v2 w) := by
  intro n
  induction n with
  | zero => intros; exact sim_none
  | succ n ih => intros; exact sb_X1_init_36 hL (R := l_X1_init_36 (En E) K54 n) ih hK54 _ _ _
def f_X1_init_54 (N : Nat) (w : Wd) : Option (Unit × Wd) :=
  some ((), w)
set_option maxRecDepth 20000 in
theorem sf_X1_init_54 {E : Ev} (hL : LN E) (w : Wd) : Sim E m_X1_init rV 54 [] [] w (f_X1_init_54 (En E) w) := by
  unfold f_X1_init_54
  exact sim_vret rfl dX1_init_54
def f_X1_init (N : Nat) (v1 : Int32) (w : Wd) : Option (Unit × Wd) :=
  l_X1_init_36 N (f_X1_init_54 N) FU v1 (0 : Int32) w
set_option maxRecDepth 20000 in
theorem s_X1_init {E : Ev} (hL : LN E) (v1 : Int32) (w : Wd) : Sim E m_X1_init rV 34 [(0, .ref (Ea E 11)), (1, .int v1)] [] w (f_X1_init (En E) v1 w) := by
  unfold f_X1_init
  refine sim_iconst (0 : Int32) dX1_init_34 rfl rfl ?_
  refine sim_istore_n [(2, .int (0 : Int32)), (0, .ref (Ea E 11)), (1, .int v1)] dX1_init_35 (Nat.le_of_ble_eq_true rfl) rfl rfl ?_
  exact sim_sub [1, 2, 0] rfl (sl_X1_init_36 hL (sf_X1_init_54 hL) FU v1 (0 : Int32) w)
def b_X10_init_381 (R : Int32 → Wd → Option (Unit × Wd)) (K400 : Wd → Option (Unit × Wd)) (v2 : Int32) (w : Wd) : Option (Unit × Wd) :=
  if (7 : Int32) ≤ v2 then
  K400 w
  else
  if inb v2 7 = true then
  lw (wdI w 56 (Int32.toNatClampNeg v2) (-1 : Int32)) fun w4 =>
  R (v2 + (1 : Int32)) w4
  else none
set_option maxRecDepth 20000 in
theorem sb_X10_init_381 {E : Ev} (hL : LM E) {R : Int32 → Wd → Option (Unit × Wd)} (hR : ∀ (v2 : Int32) (w : Wd), Sim E m_X10_init rV 381 [(0, .ref (Ea E 50)), (2, .int v2)] [] w (R v2 w)) {K400 : Wd → Option (Unit × Wd)} (hK400 : ∀ (w : Wd), Sim E m_X10_init rV 400 [(0, .ref (Ea E 50))] [] w (K400  w)) (v2 : Int32) (w : Wd) : Sim E m_X10_init rV 381 [(0, .ref (Ea E 50)), (2, .int v2)] [] w (b_X10_init_381 R K400 v2 w) := by
  unfold b_X10_init_381
  refine sim_iload_n 1 dX10_init_381 rfl rfl ?_
  refine sim_bipush (7 : Int32) dX10_init_382 rfl rfl ?_
  refine sim_icmp_ge 400 dX10_init_384 rfl rfl (fun _ => ?_) (fun _ => ?_)
  · exact sim_sub [0] rfl (hK400 w)
  · refine sim_aload_n 0 dX10_init_387 rfl rfl ?_
    refine sim_get (k := 50) (ci := 8) (j := 5) (v := .ref (Ea E 56)) (hL 50 rfl) rfl (by decide) fl_X10_19 rfl dX10_init_388 rfl ?_
    refine sim_iload_n 1 dX10_init_391 rfl rfl ?_
    refine sim_iconst (-1 : Int32) dX10_init_392 rfl rfl ?_
    refine sim_iastore (k := 56) (hL 56 rfl) rfl rfl dX10_init_393 rfl ?_
    refine sim_lw (fun w4 => ?_)
    refine sim_iinc (v2 + (1 : Int32)) 1 [(2, .int (v2 + (1 : Int32))), (0, .ref (Ea E 50))] dX10_init_394 rfl rfl (Nat.le_of_ble_eq_true rfl) rfl rfl ?_
    refine sim_goto (q := 381) dX10_init_397 rfl ?_
    exact sim_sub [1, 0] rfl (hR (v2 + (1 : Int32)) w4)
def l_X10_init_381 (K400 : Wd → Option (Unit × Wd)) (n : Nat) : Int32 → Wd → Option (Unit × Wd) := itr (fun _ _ => none) (fun R => b_X10_init_381 R K400) n
set_option maxRecDepth 20000 in
theorem sl_X10_init_381 {E : Ev} (hL : LM E) {K400 : Wd → Option (Unit × Wd)} (hK400 : ∀ (w : Wd), Sim E m_X10_init rV 400 [(0, .ref (Ea E 50))] [] w (K400  w)) : ∀ (n : Nat) (v2 : Int32) (w : Wd), Sim E m_X10_init rV 381 [(0, .ref (Ea E 50)), (2, .int v2)] [] w (l_X10_init_381 K400 n v2 w) := by
  intro n
  induction n with
  | zero => intros; exact sim_none
  | succ n ih => intros; exact sb_X10_init_381 hL (R := l_X10_init_381 K400 n) ih hK400 _ _
def f_X10_init_400 (w : Wd) : Option (Unit × Wd) :=
  bd (f_X10_tell (0 : Int32) (255 : Int32) (0 : Int32) (0 : Int32) (0 : Int32) (0 : Int32) w) fun _ w5 =>
  bd (f_X10_tell (1 : Int32) (1 : Int32) (0 : Int32) (215 : Int32) (0 : Int32) (3 : Int32) w5) fun _ w6 =>
  bd (f_X10_tell (2 : Int32) (171 : Int32) (0 : Int32) (215 : Int32) (0 : Int32) (0 : Int32) w6) fun _ w7 =>
  bd (f_X10_tell (3 : Int32) (215 : Int32) (0 : Int32) (0 : Int32) (0 : Int32) (0 : Int32) w7) fun _ w8 =>
  bd (f_X10_tell (4 : Int32) (0 : Int32) (85 : Int32) (170 : Int32) (85 : Int32) (0 : Int32) w8) fun _ w9 =>
  bd (f_X10_tell (5 : Int32) (0 : Int32) (170 : Int32) (85 : Int32) (170 : Int32) (0 : Int32) w9) fun _ w10 =>
  bd (f_X10_tell (6 : Int32) (0 : Int32) (1 : Int32) (215 : Int32) (0 : Int32) (0 : Int32) w10) fun _ w11 =>
  bd (f_X10_tell (7 : Int32) (768 : Int32) (0 : Int32) (215 : Int32) (0 : Int32) (0 : Int32) w11) fun _ w12 =>
  some ((), w12)
set_option maxRecDepth 20000 in
theorem sf_X10_init_400 {E : Ev} (hL : LM E) (w : Wd) : Sim E m_X10_init rV 400 [(0, .ref (Ea E 50))] [] w (f_X10_init_400 w) := by
  unfold f_X10_init_400
  refine sim_aload_n 0 dX10_init_400 rfl rfl ?_
  refine sim_iconst (0 : Int32) dX10_init_401 rfl rfl ?_
  refine sim_sipush (255 : Int32) dX10_init_402 rfl rfl ?_
  refine sim_iconst (0 : Int32) dX10_init_405 rfl rfl ?_
  refine sim_iconst (0 : Int32) dX10_init_406 rfl rfl ?_
  refine sim_iconst (0 : Int32) dX10_init_407 rfl rfl ?_
  refine sim_iconst (0 : Int32) dX10_init_408 rfl rfl ?_
  refine sim_cVv (k := 50) (ci := 8) [.int (0 : Int32), .int (255 : Int32), .int (0 : Int32), .int (0 : Int32), .int (0 : Int32), .int (0 : Int32)] [] (c_X10_tell hL (0 : Int32) (255 : Int32) (0 : Int32) (0 : Int32) (0 : Int32) (0 : Int32) w) (hL 50 rfl) rfl (by decide) rfl cb_X10_146 im_X10_tell se_X10_tell rfl rfl rfl (Nat.le_of_ble_eq_true rfl) dX10_init_409 rfl (fun _ w5 => ?_)
  refine sim_aload_n 0 dX10_init_412 rfl rfl ?_
  refine sim_iconst (1 : Int32) dX10_init_413 rfl rfl ?_
  refine sim_iconst (1 : Int32) dX10_init_414 rfl rfl ?_
  refine sim_iconst (0 : Int32) dX10_init_415 rfl rfl ?_
  refine sim_sipush (215 : Int32) dX10_init_416 rfl rfl ?_
  refine sim_iconst (0 : Int32) dX10_init_419 rfl rfl ?_
  refine sim_iconst (3 : Int32) dX10_init_420 rfl rfl ?_
  refine sim_cVv (k := 50) (ci := 8) [.int (1 : Int32), .int (1 : Int32), .int (0 : Int32), .int (215 : Int32), .int (0 : Int32), .int (3 : Int32)] [] (c_X10_tell hL (1 : Int32) (1 : Int32) (0 : Int32) (215 : Int32) (0 : Int32) (3 : Int32) w5) (hL 50 rfl) rfl (by decide) rfl cb_X10_146 im_X10_tell se_X10_tell rfl rfl rfl (Nat.le_of_ble_eq_true rfl) dX10_init_421 rfl (fun _ w6 => ?_)
  refine sim_aload_n 0 dX10_init_424 rfl rfl ?_
  refine sim_iconst (2 : Int32) dX10_init_425 rfl rfl ?_
  refine sim_sipush (171 : Int32) dX10_init_426 rfl rfl ?_
  refine sim_iconst (0 : Int32) dX10_init_429 rfl rfl ?_
  refine sim_sipush (215 : Int32) dX10_init_430 rfl rfl ?_
  refine sim_iconst (0 : Int32) dX10_init_433 rfl rfl ?_
  refine sim_iconst (0 : Int32) dX10_init_434 rfl rfl ?_
  refine sim_cVv (k := 50) (ci := 8) [.int (2 : Int32), .int (171 : Int32), .int (0 : Int32), .int (215 : Int32), .int (0 : Int32), .int (0 : Int32)] [] (c_X10_tell hL (2 : Int32) (171 : Int32) (0 : Int32) (215 : Int32) (0 : Int32) (0 : Int32) w6) (hL 50 rfl) rfl (by decide) rfl cb_X10_146 im_X10_tell se_X10_tell rfl rfl rfl (Nat.le_of_ble_eq_true rfl) dX10_init_435 rfl (fun _ w7 => ?_)
  refine sim_aload_n 0 dX10_init_438 rfl rfl ?_
  refine sim_iconst (3 : Int32) dX10_init_439 rfl rfl ?_
  refine sim_sipush (215 : Int32) dX10_init_440 rfl rfl ?_
  refine sim_iconst (0 : Int32) dX10_init_443 rfl rfl ?_
  refine sim_iconst (0 : Int32) dX10_init_444 rfl rfl ?_
  refine sim_iconst (0 : Int32) dX10_init_445 rfl rfl ?_
  refine sim_iconst (0 : Int32) dX10_init_446 rfl rfl ?_
  refine sim_cVv (k := 50) (ci := 8) [.int (3 : Int32), .int (215 : Int32), .int (0 : Int32), .int (0 : Int32), .int (0 : Int32), .int (0 : Int32)] [] (c_X10_tell hL (3 : Int32) (215 : Int32) (0 : Int32) (0 : Int32) (0 : Int32) (0 : Int32) w7) (hL 50 rfl) rfl (by decide) rfl cb_X10_146 im_X10_tell se_X10_tell rfl rfl rfl (Nat.le_of_ble_eq_true rfl) dX10_init_447 rfl (fun _ w8 => ?_)
  refine sim_aload_n 0 dX10_init_450 rfl rfl ?_
  refine sim_iconst (4 : Int32) dX10_init_451 rfl rfl ?_
  refine sim_iconst (0 : Int32) dX10_init_452 rfl rfl ?_
  refine sim_bipush (85 : Int32) dX10_init_453 rfl rfl ?_
  refine sim_sipush (170 : Int32) dX10_init_455 rfl rfl ?_
  refine sim_bipush (85 : Int32) dX10_init_458 rfl rfl ?_
  refine sim_iconst (0 : Int32) dX10_init_460 rfl rfl ?_
  refine sim_cVv (k := 50) (ci := 8) [.int (4 : Int32), .int (0 : Int32), .int (85 : Int32), .int (170 : Int32), .int (85 : Int32), .int (0 : Int32)] [] (c_X10_tell hL (4 : Int32) (0 : Int32) (85 : Int32) (170 : Int32) (85 : Int32) (0 : Int32) w8) (hL 50 rfl) rfl (by decide) rfl cb_X10_146 im_X10_tell se_X10_tell rfl rfl rfl (Nat.le_of_ble_eq_true rfl) dX10_init_461 rfl (fun _ w9 => ?_)
  refine sim_aload_n 0 dX10_init_464 rfl rfl ?_
  refine sim_iconst (5 : Int32) dX10_init_465 rfl rfl ?_
  refine sim_iconst (0 : Int32) dX10_init_466 rfl rfl ?_
  refine sim_sipush (170 : Int32) dX10_init_467 rfl rfl ?_
  refine sim_bipush (85 : Int32) dX10_init_470 rfl rfl ?_
  refine sim_sipush (170 : Int32) dX10_init_472 rfl rfl ?_
  refine sim_iconst (0 : Int32) dX10_init_475 rfl rfl ?_
  refine sim_cVv (k := 50) (ci := 8) [.int (5 : Int32), .int (0 : Int32), .int (170 : Int32), .int (85 : Int32), .int (170 : Int32), .int (0 : Int32)] [] (c_X10_tell hL (5 : Int32) (0 : Int32) (170 : Int32) (85 : Int32) (170 : Int32) (0 : Int32) w9) (hL 50 rfl) rfl (by decide) rfl cb_X10_146 im_X10_tell se_X10_tell rfl rfl rfl (Nat.le_of_ble_eq_true rfl) dX10_init_476 rfl (fun _ w10 => ?_)
  refine sim_aload_n 0 dX10_init_479 rfl rfl ?_
  refine sim_bipush (6 : Int32) dX10_init_480 rfl rfl ?_
  refine sim_iconst (0 : Int32) dX10_init_482 rfl rfl ?_
  refine sim_iconst (1 : Int32) dX10_init_483 rfl rfl ?_
  refine sim_sipush (215 : Int32) dX10_init_484 rfl rfl ?_
  refine sim_iconst (0 : Int32) dX10_init_487 rfl rfl ?_
  refine sim_iconst (0 : Int32) dX10_init_488 rfl rfl ?_
  refine sim_cVv (k := 50) (ci := 8) [.int (6 : Int32), .int (0 : Int32), .int (1 : Int32), .int (215 : Int32), .int (0 : Int32), .int (0 : Int32)] [] (c_X10_tell hL (6 : Int32) (0 : Int32) (1 : Int32) (215 : Int32) (0 : Int32) (0 : Int32) w10) (hL 50 rfl) rfl (by decide) rfl cb_X10_146 im_X10_tell se_X10_tell rfl rfl rfl (Nat.le_of_ble_eq_true rfl) dX10_init_489 rfl (fun _ w11 => ?_)
  refine sim_aload_n 0 dX10_init_492 rfl rfl ?_
  refine sim_bipush (7 : Int32) dX10_init_493 rfl rfl ?_
  refine sim_sipush (768 : Int32) dX10_init_495 rfl rfl ?_
  refine sim_iconst (0 : Int32) dX10_init_498 rfl rfl ?_
  refine sim_sipush (215 : Int32) dX10_init_499 rfl rfl ?_
  refine sim_iconst (0 : Int32) dX10_init_502 rfl rfl ?_
  refine sim_iconst (0 : Int32) dX10_init_503 rfl rfl ?_
  refine sim_cVv (k := 50) (ci := 8) [.int (7 : Int32), .int (768 : Int32), .int (0 : Int32), .int (215 : Int32), .int (0 : Int32), .int (0 : Int32)] [] (c_X10_tell hL (7 : Int32) (768 : Int32) (0 : Int32) (215 : Int32) (0 : Int32) (0 : Int32) w11) (hL 50 rfl) rfl (by decide) rfl cb_X10_146 im_X10_tell se_X10_tell rfl rfl rfl (Nat.le_of_ble_eq_true rfl) dX10_init_504 rfl (fun _ w12 => ?_)
  exact sim_vret rfl dX10_init_507
def f_X10_init_376 (s1 : Int32) (w : Wd) : Option (Unit × Wd) :=
  lw (wdI w 50 0 s1) fun w3 =>
  l_X10_init_381 f_X10_init_400 FU (0 : Int32) w3
set_option maxRecDepth 20000 in
theorem sf_X10_init_376 {E : Ev} (hL : LM E) (s1 : Int32) (w : Wd) : Sim E m_X10_init rV 376 [(0, .ref (Ea E 50))] [.int s1, .ref (Ea E 50)] w (f_X10_init_376 s1 w) := by
  unfold f_X10_init_376
  refine sim_putF (k := 50) (ci := 8) (j := 0) (hL 50 rfl) rfl (by decide) fpf_X10_143 rfl rfl rfl (st_50_0 _ _ _) (Nat.le_of_ble_eq_true rfl) dX10_init_376 rfl ?_
  refine sim_lw (fun w3 => ?_)
  refine sim_iconst (0 : Int32) dX10_init_379 rfl rfl ?_
  refine sim_istore_n [(2, .int (0 : Int32)), (0, .ref (Ea E 50))] dX10_init_380 (Nat.le_of_ble_eq_true rfl) rfl rfl ?_
  exact sim_sub [1, 0] rfl (sl_X10_init_381 hL (sf_X10_init_400 hL) FU (0 : Int32) w3)
def f_X10_init (v1 : Int32) (w : Wd) : Option (Unit × Wd) :=
  bd (f_X10_in (Int32.toInt64 v1) (5 : Int64) (7 : Int64) w) fun x1 w2 =>
  if x1 = (0 : Int32) then
  f_X10_init_376 (5 : Int32) w2
  else
  f_X10_init_376 v1 w2
set_option maxRecDepth 20000 in
theorem s_X10_init {E : Ev} (hL : LM E) (v1 : Int32) (w : Wd) : Sim E m_X10_init rV 356 [(0, .ref (Ea E 50)), (1, .int v1)] [] w (f_X10_init v1 w) := by
  unfold f_X10_init
  refine sim_aload_n 0 dX10_init_356 rfl rfl ?_
  refine sim_iload_n 1 dX10_init_357 rfl rfl ?_
  refine sim_i2l dX10_init_358 rfl ?_
  refine sim_ldc2 (5 : Int64) dX10_init_359 k_X10_135 rfl ?_
  refine sim_ldc2 (7 : Int64) dX10_init_362 k_X10_137 rfl ?_
  refine sim_cSi [.long (Int32.toInt64 v1), .long (5 : Int64), .long (7 : Int64)] [.ref (Ea E 50)] (c_X10_in hL (Int32.toInt64 v1) (5 : Int64) (7 : Int64) w) cb_X10_139 sx_X10_in rfl rfl rfl (Nat.le_of_ble_eq_true rfl) dX10_init_365 rfl (fun x1 w2 => ?_)
  refine sim_if_eq 375 dX10_init_368 rfl rfl (fun _ => ?_) (fun _ => ?_)
  · refine sim_iconst (5 : Int32) dX10_init_375 rfl rfl ?_
    exact sim_sub [0] rfl (sf_X10_init_376 hL (5 : Int32) w2)
  · refine sim_iload_n 1 dX10_init_371 rfl rfl ?_
    refine sim_goto (q := 376) dX10_init_372 rfl ?_
    exact sim_sub [0] rfl (sf_X10_init_376 hL v1 w2)
