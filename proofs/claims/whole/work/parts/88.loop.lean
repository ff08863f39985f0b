/-! ===== the law's loop (cases listed by gen/mk88.py) ===== -/
section LOOP
variable {p : Program} {e : Env} {s : State} {m : MethodId} {below : List Frame} {meth : Method} {c : Code} {b L : Nat} {xs : Nat → Int32} {Ex Em : Ev} {kc ks : Nat} {lv : List (Nat × Value)} {wx wm : Wd}
theorem and63 (x : Int32) : ∃ j : Nat, j < 64 ∧ x &&& 63 = nI j := by
  refine ⟨(x.toBitVec &&& 63#32).toNat, ?_, ?_⟩
  · rw [BitVec.toNat_and]
    exact Nat.lt_of_le_of_lt Nat.and_le_right (by decide)
  · apply Int32.toBitVec_inj.mp
    show x.toBitVec &&& 63#32 = BitVec.ofNat 32 (x.toBitVec &&& 63#32).toNat
    simp
theorem lj_end (C : LCx p s m meth c b L xs Ex Em kc ks) : LJ p e s m below meth c b Ex Em kc ks 1239 lv [] wx wm := by
  intro H locs ls hP hP2 hD hD2 hS hl
  refine lv_iconst C.1.1 C.1.2.1 dL_law_1239 (v := 1) rfl ?_
  refine va_forget (fun q hq => hS.2.2 q hq) ?_
  refine W.widen C.2.2.2.2.2.2.2.2.1 C.2.2.2.2.2.2.2.2.2 ?_
  exact lw_ret C.1.1 C.1.2.1 C.1.2.2.1 C.1.2.2.2.2.2.2.2.2.1 dL_law_1240
theorem lj_tabIn {x : Int32} {dflt hi off : Int} {offs : Array Int} {len j t pc : Nat} {st : List Value} (C : LCx p s m meth c b L xs Ex Em kc ks) (hd : decode code pc = .ok (.tableswitch dflt 0 hi offs, len)) (hx : x.toInt = (j : Int)) (hi2 : ¬ hi < (j : Int)) (ho : offs[j]? = some off) (ht : (pc : Int) + off = (t : Int)) (h : LJ p e s m below meth c b Ex Em kc ks t lv st wx wm) : LJ p e s m below meth c b Ex Em kc ks pc lv (.int x :: st) wx wm :=
  h.go (fun hl hS kk => lv_tableIn C.1.1 C.1.2.1 hd (by rw [hx]; omega) (by rw [hx]; exact hi2) (by rw [hx, Int.sub_zero, Int.toNat_natCast]; exact ho) ht kk)
theorem lj_tabOut {x : Int32} {dflt hi : Int} {offs : Array Int} {len t pc : Nat} {st : List Value} (C : LCx p s m meth c b L xs Ex Em kc ks) (hd : decode code pc = .ok (.tableswitch dflt 0 hi offs, len)) (hx : x.toInt < 0 ∨ hi < x.toInt) (ht : (pc : Int) + dflt = (t : Int)) (h : LJ p e s m below meth c b Ex Em kc ks t lv st wx wm) : LJ p e s m below meth c b Ex Em kc ks pc lv (.int x :: st) wx wm :=
  h.go (fun hl hS kk => lv_tableOut C.1.1 C.1.2.1 hd hx ht kk)
theorem lj_next {i : Nat} (C : LCx p s m meth c b L xs Ex Em kc ks) (h : LJ p e s m below meth c b Ex Em kc ks 28 (lvL b Ex Em (i + 7)) [] wx wm) : LJ p e s m below meth c b Ex Em kc ks 1233 (lvL b Ex Em i) [] wx wm := by
  have h2 : LJ p e s m below meth c b Ex Em kc ks 1236 (lvL b Ex Em (i + 7)) [] wx wm := lj_goto C dL_law_1236 rfl h
  intro H locs ls hP hP2 hD hD2 hS hl
  exact lv_iinc C.1.1 C.1.2.1 dL_law_1233 hl (k := 0) rfl (v := nI (i + 7)) (nI_add i 7) (by decide) rfl (fun ls2 hl2 => h2 H locs ls2 hP hP2 hD hD2 hS hl2)
theorem lj_switch {i : Nat} (C : LCx p s m meth c b L xs Ex Em kc ks) (hi : i + 7 ≤ L) (h : Rl (En Ex) wx wm) (x : Int32) (kk : ∀ wx2 wm2, Rl (En Ex) wx2 wm2 → LJ p e s m below meth c b Ex Em kc ks 1233 (lvL b Ex Em i) [] wx2 wm2) : LJ p e s m below meth c b Ex Em kc ks 43 (lvL b Ex Em i) [.int (x &&& 63)] wx wm := by
  obtain ⟨j, hj, ej⟩ := and63 x
  rw [ej]
  by_cases hb : 36 ≤ j
  · exact lj_tabOut C dL_law_43 (Or.inr (by rw [nI_toInt (by omega)]; omega)) (t := 1233) rfl (kk _ _ h)
  · rcases (show j = 0 ∨ j = 1 ∨ j = 2 ∨ j = 3 ∨ j = 4 ∨ j = 5 ∨ j = 6 ∨ j = 7 ∨ j = 8 ∨ j = 9 ∨ j = 10 ∨ j = 11 ∨ j = 12 ∨ j = 13 ∨ j = 14 ∨ j = 15 ∨ j = 16 ∨ j = 17 ∨ j = 18 ∨ j = 19 ∨ j = 20 ∨ j = 21 ∨ j = 22 ∨ j = 23 ∨ j = 24 ∨ j = 25 ∨ j = 26 ∨ j = 27 ∨ j = 28 ∨ j = 29 ∨ j = 30 ∨ j = 31 ∨ j = 32 ∨ j = 33 ∨ j = 34 ∨ j = 35 by omega) with rfl | rfl | rfl | rfl | rfl | rfl | rfl | rfl | rfl | rfl | rfl | rfl | rfl | rfl | rfl | rfl | rfl | rfl | rfl | rfl | rfl | rfl | rfl | rfl | rfl | rfl | rfl | rfl | rfl | rfl | rfl | rfl | rfl | rfl | rfl | rfl
    · exact lj_tabIn C (j := 0) (t := 200) dL_law_43 rfl (by decide) rfl rfl (lc_0 C hi h kk)
    · exact lj_tabIn C (j := 1) (t := 275) dL_law_43 rfl (by decide) rfl rfl (lc_1 C hi h kk)
    · exact lj_tabIn C (j := 2) (t := 318) dL_law_43 rfl (by decide) rfl rfl (lc_2 C hi h kk)
    · exact lj_tabIn C (j := 3) (t := 341) dL_law_43 rfl (by decide) rfl rfl (lc_3 C hi h kk)
    · exact lj_tabIn C (j := 4) (t := 394) dL_law_43 rfl (by decide) rfl rfl (lc_4 C hi h kk)
    · exact lj_tabIn C (j := 5) (t := 437) dL_law_43 rfl (by decide) rfl rfl (lc_5 C hi h kk)
    · exact lj_tabIn C (j := 6) (t := 500) dL_law_43 rfl (by decide) rfl rfl (lc_6 C hi h kk)
    · exact lj_tabIn C (j := 7) (t := 543) dL_law_43 rfl (by decide) rfl rfl (lc_7 C hi h kk)
    · exact lj_tabIn C (j := 8) (t := 566) dL_law_43 rfl (by decide) rfl rfl (lc_8 C hi h kk)
    · exact lj_tabIn C (j := 9) (t := 579) dL_law_43 rfl (by decide) rfl rfl (lc_9 C hi h kk)
    · exact lj_tabIn C (j := 10) (t := 602) dL_law_43 rfl (by decide) rfl rfl (lc_10 C hi h kk)
    · exact lj_tabIn C (j := 11) (t := 635) dL_law_43 rfl (by decide) rfl rfl (lc_11 C hi h kk)
    · exact lj_tabIn C (j := 12) (t := 668) dL_law_43 rfl (by decide) rfl rfl (lc_12 C hi h kk)
    · exact lj_tabIn C (j := 13) (t := 691) dL_law_43 rfl (by decide) rfl rfl (lc_13 C hi h kk)
    · exact lj_tabIn C (j := 14) (t := 704) dL_law_43 rfl (by decide) rfl rfl (lc_14 C hi h kk)
    · exact lj_tabIn C (j := 15) (t := 737) dL_law_43 rfl (by decide) rfl rfl (lc_15 C hi h kk)
    · exact lj_tabIn C (j := 16) (t := 796) dL_law_43 rfl (by decide) rfl rfl (lc_16 C hi h kk)
    · exact lj_tabIn C (j := 17) (t := 829) dL_law_43 rfl (by decide) rfl rfl (lc_17 C hi h kk)
    · exact lj_tabIn C (j := 18) (t := 852) dL_law_43 rfl (by decide) rfl rfl (lc_18 C hi h kk)
    · exact lj_tabIn C (j := 19) (t := 875) dL_law_43 rfl (by decide) rfl rfl (lc_19 C hi h kk)
    · exact lj_tabIn C (j := 20) (t := 888) dL_law_43 rfl (by decide) rfl rfl (lc_20 C hi h kk)
    · exact lj_tabIn C (j := 21) (t := 901) dL_law_43 rfl (by decide) rfl rfl (lc_21 C hi h kk)
    · exact lj_tabIn C (j := 22) (t := 924) dL_law_43 rfl (by decide) rfl rfl (lc_22 C hi h kk)
    · exact lj_tabIn C (j := 23) (t := 947) dL_law_43 rfl (by decide) rfl rfl (lc_23 C hi h kk)
    · exact lj_tabIn C (j := 24) (t := 970) dL_law_43 rfl (by decide) rfl rfl (lc_24 C hi h kk)
    · exact lj_tabIn C (j := 25) (t := 983) dL_law_43 rfl (by decide) rfl rfl (lc_25 C hi h kk)
    · exact lj_tabIn C (j := 26) (t := 996) dL_law_43 rfl (by decide) rfl rfl (lc_26 C hi h kk)
    · exact lj_tabIn C (j := 27) (t := 1029) dL_law_43 rfl (by decide) rfl rfl (lc_27 C hi h kk)
    · exact lj_tabIn C (j := 28) (t := 1108) dL_law_43 rfl (by decide) rfl rfl (lc_28 C hi h kk)
    · exact lj_tabIn C (j := 29) (t := 1121) dL_law_43 rfl (by decide) rfl rfl (lc_29 C hi h kk)
    · exact lj_tabIn C (j := 30) (t := 1134) dL_law_43 rfl (by decide) rfl rfl (lc_30 C hi h kk)
    · exact lj_tabIn C (j := 31) (t := 1157) dL_law_43 rfl (by decide) rfl rfl (lc_31 C hi h kk)
    · exact lj_tabIn C (j := 32) (t := 1170) dL_law_43 rfl (by decide) rfl rfl (lc_32 C hi h kk)
    · exact lj_tabIn C (j := 33) (t := 1193) dL_law_43 rfl (by decide) rfl rfl (lc_33 C hi h kk)
    · exact lj_tabIn C (j := 34) (t := 1206) dL_law_43 rfl (by decide) rfl rfl (lc_34 C hi h kk)
    · exact lj_tabIn C (j := 35) (t := 1219) dL_law_43 rfl (by decide) rfl rfl (lc_35 C hi h kk)
theorem lj_loop (C : LCx p s m meth c b L xs Ex Em kc ks) : ∀ (n i : Nat) (wx wm : Wd), L < i + n → i ≤ 3585 → Rl (En Ex) wx wm → LJ p e s m below meth c b Ex Em kc ks 28 (lvL b Ex Em i) [] wx wm := by
  intro n
  induction n with
  | zero =>
    intro i wx wm hn hi h
    have hL := C.2.1
    refine lj_iload C 0 dL_law_28 rfl rfl ?_
    refine lj_aload C 3 dL_law_29 rfl rfl ?_
    refine lj_slen C dL_law_30 rfl ?_
    refine lj_bipush C (nI 7) dL_law_31 rfl rfl ?_
    refine lj_isub C dL_law_33 rfl ?_
    intro H locs ls hP hP2 hD hD2 hS hl
    refine lv_icmp_gt C.1.1 C.1.2.1 dL_law_34 (tgt := 1239) rfl (fun _ => lj_end C H locs ls hP hP2 hD hD2 hS hl) (fun z => absurd ?_ z)
    rw [Int32.lt_iff_toInt_lt, pk_sub_toInt (by omega) (by omega), nI_toInt (by omega)]
    omega
  | succ n ih =>
    intro i wx wm hn hi h
    have hL := C.2.1
    refine lj_iload C 0 dL_law_28 rfl rfl ?_
    refine lj_aload C 3 dL_law_29 rfl rfl ?_
    refine lj_slen C dL_law_30 rfl ?_
    refine lj_bipush C (nI 7) dL_law_31 rfl rfl ?_
    refine lj_isub C dL_law_33 rfl ?_
    intro H locs ls hP hP2 hD hD2 hS hl
    refine lv_icmp_gt C.1.1 C.1.2.1 dL_law_34 (tgt := 1239) rfl (fun _ => lj_end C H locs ls hP hP2 hD hD2 hS hl) (fun z => ?_)
    have hi7 : i + 7 ≤ L := by
      rw [Int32.lt_iff_toInt_lt, pk_sub_toInt (by omega) (by omega), nI_toInt (by omega)] at z
      omega
    have key : LJ p e s m below meth c b Ex Em kc ks 37 (lvL b Ex Em i) [] wx wm := by
      refine lj_aload C 3 dL_law_37 rfl rfl ?_
      refine lj_iload C 0 dL_law_38 rfl rfl ?_
      refine lj_sld C (by omega) dL_law_39 rfl ?_
      refine lj_bipush C 63 dL_law_40 rfl rfl ?_
      refine lj_iand C dL_law_42 rfl ?_
      exact lj_switch C hi7 h (xs i) (fun wx2 wm2 h2 => lj_next C (ih (i + 7) wx2 wm2 (by omega) (by omega) h2))
    exact key H locs ls hP hP2 hD hD2 hS hl
end LOOP
