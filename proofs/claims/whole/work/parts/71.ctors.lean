/-! constructors -/
theorem kf_X0_9 : bk_fp "BentWords$Cursor" 9 0 6 0 (tyX0 0) := ⟨RX0, TX0, tyX0, tyX0_ok, nmX0, in_X0, rfl, by decide, bw_mem1 58 (by decide +kernel) rfl, rfl, rfl, tyX0_ok 0 (by decide)⟩
theorem kf_X9_9 : bk_fp "BentWords$Tape" 9 9 2 0 (tyX9 0) := ⟨RX9, TX9, tyX9, tyX9_ok, nmX9, in_X9, rfl, by decide, bw_mem1 39 (by decide +kernel) rfl, rfl, rfl, tyX9_ok 0 (by decide)⟩
theorem kf_X3_9 : bk_fp "BentWords$Lexicon" 9 3 13 1 (tyX3 1) := ⟨RX3, TX3, tyX3, tyX3_ok, nmX3, in_X3, rfl, by decide, bw_mem1 102 (by decide +kernel) rfl, rfl, rfl, tyX3_ok 1 (by decide)⟩
theorem kf_X3_15 : bk_fp "BentWords$Lexicon" 15 3 13 2 (tyX3 2) := ⟨RX3, TX3, tyX3, tyX3_ok, nmX3, in_X3, rfl, by decide, bw_mem1 106 (by decide +kernel) rfl, rfl, rfl, tyX3_ok 2 (by decide)⟩
theorem kf_X3_19 : bk_fp "BentWords$Lexicon" 19 3 13 3 (tyX3 3) := ⟨RX3, TX3, tyX3, tyX3_ok, nmX3, in_X3, rfl, by decide, bw_mem1 110 (by decide +kernel) rfl, rfl, rfl, tyX3_ok 3 (by decide)⟩
theorem kf_X3_22 : bk_fp "BentWords$Lexicon" 22 3 13 4 (tyX3 4) := ⟨RX3, TX3, tyX3, tyX3_ok, nmX3, in_X3, rfl, by decide, bw_mem1 113 (by decide +kernel) rfl, rfl, rfl, tyX3_ok 4 (by decide)⟩
theorem kf_X3_25 : bk_fp "BentWords$Lexicon" 25 3 13 5 (tyX3 5) := ⟨RX3, TX3, tyX3, tyX3_ok, nmX3, in_X3, rfl, by decide, bw_mem1 117 (by decide +kernel) rfl, rfl, rfl, tyX3_ok 5 (by decide)⟩
theorem kf_X3_28 : bk_fp "BentWords$Lexicon" 28 3 13 7 (tyX3 7) := ⟨RX3, TX3, tyX3, tyX3_ok, nmX3, in_X3, rfl, by decide, bw_mem1 125 (by decide +kernel) rfl, rfl, rfl, tyX3_ok 7 (by decide)⟩
theorem kf_X3_31 : bk_fp "BentWords$Lexicon" 31 3 13 8 (tyX3 8) := ⟨RX3, TX3, tyX3, tyX3_ok, nmX3, in_X3, rfl, by decide, bw_mem1 127 (by decide +kernel) rfl, rfl, rfl, tyX3_ok 8 (by decide)⟩
theorem kf_X3_34 : bk_fp "BentWords$Lexicon" 34 3 13 9 (tyX3 9) := ⟨RX3, TX3, tyX3, tyX3_ok, nmX3, in_X3, rfl, by decide, bw_mem1 131 (by decide +kernel) rfl, rfl, rfl, tyX3_ok 9 (by decide)⟩
theorem kf_X3_38 : bk_fp "BentWords$Lexicon" 38 3 13 10 (tyX3 10) := ⟨RX3, TX3, tyX3, tyX3_ok, nmX3, in_X3, rfl, by decide, bw_mem1 134 (by decide +kernel) rfl, rfl, rfl, tyX3_ok 10 (by decide)⟩
theorem kf_X3_41 : bk_fp "BentWords$Lexicon" 41 3 13 11 (tyX3 11) := ⟨RX3, TX3, tyX3, tyX3_ok, nmX3, in_X3, rfl, by decide, bw_mem1 138 (by decide +kernel) rfl, rfl, rfl, tyX3_ok 11 (by decide)⟩
theorem kf_X3_44 : bk_fp "BentWords$Lexicon" 44 3 13 12 (tyX3 12) := ⟨RX3, TX3, tyX3, tyX3_ok, nmX3, in_X3, rfl, by decide, bw_mem1 142 (by decide +kernel) rfl, rfl, rfl, tyX3_ok 12 (by decide)⟩
theorem kf_X4_9 : bk_fp "BentWords$LexiconReader" 9 4 2 0 (tyX4 0) := ⟨RX4, TX4, tyX4, tyX4_ok, nmX4, in_X4, rfl, by decide, bw_mem1 174 (by decide +kernel) rfl, rfl, rfl, tyX4_ok 0 (by decide)⟩
theorem hfsX3 : ∀ j, j < 13 → defaultValue (tyX3 j) = vp_V [.int 0, .null, .null, .null, .null, .null, .int 0, .null, .null, .null, .null, .null, .null] j := fun j hj => match j, hj with
  | 0, _ => rfl
  | 1, _ => rfl
  | 2, _ => rfl
  | 3, _ => rfl
  | 4, _ => rfl
  | 5, _ => rfl
  | 6, _ => rfl
  | 7, _ => rfl
  | 8, _ => rfl
  | 9, _ => rfl
  | 10, _ => rfl
  | 11, _ => rfl
  | 12, _ => rfl
  | n + 13, h => absurd h (by omega)
theorem ki_BentWords_LexiconReader_17 : bk_ci "BentWords$LexiconReader" 17 0 mX3_init := ⟨bw_mem1 95 (by decide +kernel) rfl, bw_mem1 96 (by decide +kernel) rfl, bw_mem1 5 (by decide +kernel) rfl, bw_mem1 97 (by decide +kernel) rfl, ⟨by decide, by decide, by decide +kernel⟩, by decide, rfl, rfl⟩
theorem kf_X4_18 : bk_fp "BentWords$LexiconReader" 18 4 2 1 (tyX4 1) := ⟨RX4, TX4, tyX4, tyX4_ok, nmX4, in_X4, rfl, by decide, bw_mem1 175 (by decide +kernel) rfl, rfl, rfl, tyX4_ok 1 (by decide)⟩
theorem kf_X6_9 : bk_fp "BentWords$ScriptReader" 9 6 1 0 (tyX6 0) := ⟨RX6, TX6, tyX6, tyX6_ok, nmX6, in_X6, rfl, by decide, bw_mem1 188 (by decide +kernel) rfl, rfl, rfl, tyX6_ok 0 (by decide)⟩
theorem kf_X7_11 : bk_fp "BentWords$State" 11 7 1 0 (tyX7 0) := ⟨RX7, TX7, tyX7, tyX7_ok, nmX7, in_X7, rfl, by decide, bw_mem2 15 (by decide +kernel) rfl, rfl, rfl, tyX7_ok 0 (by decide)⟩
theorem kf_X2_11 : bk_fp "BentWords$History" 11 2 5 0 (tyX2 0) := ⟨RX2, TX2, tyX2, tyX2_ok, nmX2, in_X2, rfl, by decide, bw_mem2 60 (by decide +kernel) rfl, rfl, rfl, tyX2_ok 0 (by decide)⟩
theorem kf_X2_15 : bk_fp "BentWords$History" 15 2 5 2 (tyX2 2) := ⟨RX2, TX2, tyX2, tyX2_ok, nmX2, in_X2, rfl, by decide, bw_mem2 62 (by decide +kernel) rfl, rfl, rfl, tyX2_ok 2 (by decide)⟩
theorem kf_X2_18 : bk_fp "BentWords$History" 18 2 5 3 (tyX2 3) := ⟨RX2, TX2, tyX2, tyX2_ok, nmX2, in_X2, rfl, by decide, bw_mem2 63 (by decide +kernel) rfl, rfl, rfl, tyX2_ok 3 (by decide)⟩
theorem kf_X10_9 : bk_fp "BentWords$Teller" 9 10 7 0 (tyX10 0) := ⟨RX10, TX10, tyX10, tyX10_ok, nmX10, in_X10, rfl, by decide, bw_mem2 28 (by decide +kernel) rfl, rfl, rfl, tyX10_ok 0 (by decide)⟩
theorem kf_X10_15 : bk_fp "BentWords$Teller" 15 10 7 1 (tyX10 1) := ⟨RX10, TX10, tyX10, tyX10_ok, nmX10, in_X10, rfl, by decide, bw_mem2 29 (by decide +kernel) rfl, rfl, rfl, tyX10_ok 1 (by decide)⟩
theorem kf_X10_19 : bk_fp "BentWords$Teller" 19 10 7 2 (tyX10 2) := ⟨RX10, TX10, tyX10, tyX10_ok, nmX10, in_X10, rfl, by decide, bw_mem2 30 (by decide +kernel) rfl, rfl, rfl, tyX10_ok 2 (by decide)⟩
theorem kf_X5_11 : bk_fp "BentWords$Script" 11 5 2 1 (tyX5 1) := ⟨RX5, TX5, tyX5, tyX5_ok, nmX5, in_X5, rfl, by decide, bw_mem2 1 (by decide +kernel) rfl, rfl, rfl, tyX5_ok 1 (by decide)⟩
theorem hfsX8 : ∀ j, j < 5 → defaultValue (tyX8 j) = vp_V [.int 0, .int 0, .int 0, .int 0, .long 0] j := fun j hj => match j, hj with
  | 0, _ => rfl
  | 1, _ => rfl
  | 2, _ => rfl
  | 3, _ => rfl
  | 4, _ => rfl
  | n + 5, h => absurd h (by omega)
theorem ki_BentWords_Script_17 : bk_cn "BentWords$Script" 17 0 mX8_init "BentWords" := ⟨by decide, bw_mem1 205 (by decide +kernel) rfl, bw_mem1 8 (by decide +kernel) rfl, bw_mem1 206 (by decide +kernel) rfl, ⟨by decide, by decide, by decide +kernel⟩, by decide, rfl, rfl⟩
theorem kX8 {E : bw_E} {cs : List va_E} {j : Nat} : bk_run E 1 mX8_init [.ref j] cs cs 0 0 := by
  refine bk_enter (by decide) rfl (Nat.le_of_ble_eq_true rfl) ?_
  refine bk_aload_n dX8_init_0 rfl rfl ?_
  refine bk_oinit (bw_mem1 207 (by decide +kernel) rfl) ⟨(Nat.le_of_ble_eq_true rfl), (Nat.le_of_ble_eq_true rfl)⟩ dX8_init_1 ?_
  exact bk_ret rfl rfl rfl rfl dX8_init_4
theorem kX1 {E : bw_E} {cs : List va_E} {j : Nat} : bk_run E 1 mX1_init [.ref j] cs cs 0 0 := by
  refine bk_enter (by decide) rfl (Nat.le_of_ble_eq_true rfl) ?_
  refine bk_aload_n dX1_init_0 rfl rfl ?_
  refine bk_oinit (bw_mem2 82 (by decide +kernel) rfl) ⟨(Nat.le_of_ble_eq_true rfl), (Nat.le_of_ble_eq_true rfl)⟩ dX1_init_1 ?_
  exact bk_ret rfl rfl rfl rfl dX1_init_4
set_option maxRecDepth 20000 in
theorem kX0 {E : bw_E} {cs : List va_E} {j K : Nat} {t : Nat} (hj : cs[j]? = some (.inr (0, [.null, .int 0, .int 0, .int 0, .int 0, .long 0]))) (hK : cs.length = K) : bk_run E 1 mX0_init [.ref j, .ref t] cs (bk_nf cs j (.inr (0, [.ref (E.1 (t)), .int 0, .int 0, .int 0, .int 0, .long 0])) []) 0 0 := by
  have hjl := (List.getElem?_eq_some_iff.mp hj).1
  refine bk_enter (by decide) rfl (Nat.le_of_ble_eq_true rfl) ?_
  refine bk_eq (bk_nf0 hj) ?_
  refine bk_aload_n dX0_init_0 rfl rfl ?_
  refine bk_oinit (bw_mem1 57 (by decide +kernel) rfl) ⟨(Nat.le_of_ble_eq_true rfl), (Nat.le_of_ble_eq_true rfl)⟩ dX0_init_1 ?_
  refine bk_aload_n dX0_init_4 rfl rfl ?_
  refine bk_aload_n dX0_init_5 rfl rfl ?_
  refine bn_put (k := 0) (x := t) hjl kf_X0_9 (fun _ => ⟨rfl, rfl⟩) (Nat.le_of_ble_eq_true rfl) dX0_init_6 ?_
  exact bk_ret rfl rfl rfl rfl dX0_init_9
set_option maxRecDepth 20000 in
theorem kX9 {E : bw_E} {cs : List va_E} {j K : Nat} (hj : cs[j]? = some (.inr (9, [.null, .int 0]))) (hK : cs.length = K) : bk_run E 1 mX9_init [.ref j] cs (bk_nf cs j (.inr (9, [.ref (E.1 (K + 0)), .int 0])) [.inl (E.2.2.2 2, 480, .inl (fun _ => 0))]) 1 480 := by
  have hjl := (List.getElem?_eq_some_iff.mp hj).1
  refine bk_enter (by decide) rfl (Nat.le_of_ble_eq_true rfl) ?_
  refine bk_eq (bk_nf0 hj) ?_
  refine bk_aload_n dX9_init_0 rfl rfl ?_
  refine bk_oinit (bw_mem1 38 (by decide +kernel) rfl) ⟨(Nat.le_of_ble_eq_true rfl), (Nat.le_of_ble_eq_true rfl)⟩ dX9_init_1 ?_
  refine bk_aload_n dX9_init_4 rfl rfl ?_
  refine bk_sipush (v := 480) dX9_init_5 rfl ?_
  refine bn_newc (m := 0) (N := 480) hK rfl rfl (by decide) (by decide) (Nat.le_of_ble_eq_true rfl) (Nat.le_of_ble_eq_true rfl) dX9_init_8 ?_
  refine bn_put (k := 0) (x := K + 0) hjl kf_X9_9 (fun _ => ⟨rfl, rfl⟩) (Nat.le_of_ble_eq_true rfl) dX9_init_10 ?_
  exact bk_ret rfl rfl rfl rfl dX9_init_13
set_option maxRecDepth 20000 in
theorem kX3 {E : bw_E} {cs : List va_E} {j K : Nat} (hj : cs[j]? = some (.inr (3, [.int 0, .null, .null, .null, .null, .null, .int 0, .null, .null, .null, .null, .null, .null]))) (hK : cs.length = K) : bk_run E 1 mX3_init [.ref j] cs (bk_nf cs j (.inr (3, [.int 0, .ref (E.1 (K + 0)), .ref (E.1 (K + 1)), .ref (E.1 (K + 2)), .ref (E.1 (K + 3)), .ref (E.1 (K + 4)), .int 0, .ref (E.1 (K + 5)), .ref (E.1 (K + 6)), .ref (E.1 (K + 7)), .ref (E.1 (K + 8)), .ref (E.1 (K + 9)), .ref (E.1 (K + 10))])) [.inl (E.2.2.2 1, 6, .inr (.inl (fun _ => 0))), .inl (E.2.2.2 0, 6, .inl (fun _ => 0)), .inl (E.2.2.2 1, 48, .inr (.inl (fun _ => 0))), .inl (E.2.2.2 1, 24, .inr (.inl (fun _ => 0))), .inl (E.2.2.2 1, 24, .inr (.inl (fun _ => 0))), .inl (E.2.2.2 1, 4, .inr (.inl (fun _ => 0))), .inl (E.2.2.2 0, 4, .inl (fun _ => 0)), .inl (E.2.2.2 2, 32, .inl (fun _ => 0)), .inl (E.2.2.2 0, 32, .inl (fun _ => 0)), .inl (E.2.2.2 0, 32, .inl (fun _ => 0)), .inl (E.2.2.2 1, 32, .inr (.inl (fun _ => 0)))]) 11 244 := by
  have hjl := (List.getElem?_eq_some_iff.mp hj).1
  refine bk_enter (by decide) rfl (Nat.le_of_ble_eq_true rfl) ?_
  refine bk_eq (bk_nf0 hj) ?_
  refine bk_aload_n dX3_init_0 rfl rfl ?_
  refine bk_oinit (bw_mem1 98 (by decide +kernel) rfl) ⟨(Nat.le_of_ble_eq_true rfl), (Nat.le_of_ble_eq_true rfl)⟩ dX3_init_1 ?_
  refine bk_aload_n dX3_init_4 rfl rfl ?_
  refine bk_bipush (v := 6) dX3_init_5 rfl ?_
  refine bn_newl (m := 0) (N := 6) hK rfl rfl (by decide) (by decide) (Nat.le_of_ble_eq_true rfl) (Nat.le_of_ble_eq_true rfl) dX3_init_7 ?_
  refine bn_put (k := 1) (x := K + 0) hjl kf_X3_9 (fun _ => ⟨rfl, rfl⟩) (Nat.le_of_ble_eq_true rfl) dX3_init_9 ?_
  refine bk_aload_n dX3_init_12 rfl rfl ?_
  refine bk_bipush (v := 6) dX3_init_13 rfl ?_
  refine bn_newi (m := 1) (N := 6) hK rfl rfl (by decide) (by decide) (Nat.le_of_ble_eq_true rfl) (Nat.le_of_ble_eq_true rfl) dX3_init_15 ?_
  refine bn_put (k := 2) (x := K + 1) hjl kf_X3_15 (fun _ => ⟨rfl, rfl⟩) (Nat.le_of_ble_eq_true rfl) dX3_init_17 ?_
  refine bk_aload_n dX3_init_20 rfl rfl ?_
  refine bk_bipush (v := 48) dX3_init_21 rfl ?_
  refine bn_newl (m := 2) (N := 48) hK rfl rfl (by decide) (by decide) (Nat.le_of_ble_eq_true rfl) (Nat.le_of_ble_eq_true rfl) dX3_init_23 ?_
  refine bn_put (k := 3) (x := K + 2) hjl kf_X3_19 (fun _ => ⟨rfl, rfl⟩) (Nat.le_of_ble_eq_true rfl) dX3_init_25 ?_
  refine bk_aload_n dX3_init_28 rfl rfl ?_
  refine bk_bipush (v := 24) dX3_init_29 rfl ?_
  refine bn_newl (m := 3) (N := 24) hK rfl rfl (by decide) (by decide) (Nat.le_of_ble_eq_true rfl) (Nat.le_of_ble_eq_true rfl) dX3_init_31 ?_
  refine bn_put (k := 4) (x := K + 3) hjl kf_X3_22 (fun _ => ⟨rfl, rfl⟩) (Nat.le_of_ble_eq_true rfl) dX3_init_33 ?_
  refine bk_aload_n dX3_init_36 rfl rfl ?_
  refine bk_bipush (v := 24) dX3_init_37 rfl ?_
  refine bn_newl (m := 4) (N := 24) hK rfl rfl (by decide) (by decide) (Nat.le_of_ble_eq_true rfl) (Nat.le_of_ble_eq_true rfl) dX3_init_39 ?_
  refine bn_put (k := 5) (x := K + 4) hjl kf_X3_25 (fun _ => ⟨rfl, rfl⟩) (Nat.le_of_ble_eq_true rfl) dX3_init_41 ?_
  refine bk_aload_n dX3_init_44 rfl rfl ?_
  refine bk_iconst (v := 4) dX3_init_45 rfl ?_
  refine bn_newl (m := 5) (N := 4) hK rfl rfl (by decide) (by decide) (Nat.le_of_ble_eq_true rfl) (Nat.le_of_ble_eq_true rfl) dX3_init_46 ?_
  refine bn_put (k := 7) (x := K + 5) hjl kf_X3_28 (fun _ => ⟨rfl, rfl⟩) (Nat.le_of_ble_eq_true rfl) dX3_init_48 ?_
  refine bk_aload_n dX3_init_51 rfl rfl ?_
  refine bk_iconst (v := 4) dX3_init_52 rfl ?_
  refine bn_newi (m := 6) (N := 4) hK rfl rfl (by decide) (by decide) (Nat.le_of_ble_eq_true rfl) (Nat.le_of_ble_eq_true rfl) dX3_init_53 ?_
  refine bn_put (k := 8) (x := K + 6) hjl kf_X3_31 (fun _ => ⟨rfl, rfl⟩) (Nat.le_of_ble_eq_true rfl) dX3_init_55 ?_
  refine bk_aload_n dX3_init_58 rfl rfl ?_
  refine bk_bipush (v := 32) dX3_init_59 rfl ?_
  refine bn_newc (m := 7) (N := 32) hK rfl rfl (by decide) (by decide) (Nat.le_of_ble_eq_true rfl) (Nat.le_of_ble_eq_true rfl) dX3_init_61 ?_
  refine bn_put (k := 9) (x := K + 7) hjl kf_X3_34 (fun _ => ⟨rfl, rfl⟩) (Nat.le_of_ble_eq_true rfl) dX3_init_63 ?_
  refine bk_aload_n dX3_init_66 rfl rfl ?_
  refine bk_bipush (v := 32) dX3_init_67 rfl ?_
  refine bn_newi (m := 8) (N := 32) hK rfl rfl (by decide) (by decide) (Nat.le_of_ble_eq_true rfl) (Nat.le_of_ble_eq_true rfl) dX3_init_69 ?_
  refine bn_put (k := 10) (x := K + 8) hjl kf_X3_38 (fun _ => ⟨rfl, rfl⟩) (Nat.le_of_ble_eq_true rfl) dX3_init_71 ?_
  refine bk_aload_n dX3_init_74 rfl rfl ?_
  refine bk_bipush (v := 32) dX3_init_75 rfl ?_
  refine bn_newi (m := 9) (N := 32) hK rfl rfl (by decide) (by decide) (Nat.le_of_ble_eq_true rfl) (Nat.le_of_ble_eq_true rfl) dX3_init_77 ?_
  refine bn_put (k := 11) (x := K + 9) hjl kf_X3_41 (fun _ => ⟨rfl, rfl⟩) (Nat.le_of_ble_eq_true rfl) dX3_init_79 ?_
  refine bk_aload_n dX3_init_82 rfl rfl ?_
  refine bk_bipush (v := 32) dX3_init_83 rfl ?_
  refine bn_newl (m := 10) (N := 32) hK rfl rfl (by decide) (by decide) (Nat.le_of_ble_eq_true rfl) (Nat.le_of_ble_eq_true rfl) dX3_init_85 ?_
  refine bn_put (k := 12) (x := K + 10) hjl kf_X3_44 (fun _ => ⟨rfl, rfl⟩) (Nat.le_of_ble_eq_true rfl) dX3_init_87 ?_
  exact bk_ret rfl rfl rfl rfl dX3_init_90
set_option maxRecDepth 20000 in
theorem kX4 {E : bw_E} {cs : List va_E} {j K : Nat} {t : Nat} (hj : cs[j]? = some (.inr (4, [.null, .null]))) (hK : cs.length = K) : bk_run E 2 mX4_init [.ref j, .ref t] cs (bk_nf cs j (.inr (4, [.ref (E.1 (t)), .ref (E.1 (K + 0))])) [.inr (3, [.int 0, .ref (E.1 (K + 1)), .ref (E.1 (K + 2)), .ref (E.1 (K + 3)), .ref (E.1 (K + 4)), .ref (E.1 (K + 5)), .int 0, .ref (E.1 (K + 6)), .ref (E.1 (K + 7)), .ref (E.1 (K + 8)), .ref (E.1 (K + 9)), .ref (E.1 (K + 10)), .ref (E.1 (K + 11))]), .inl (E.2.2.2 1, 6, .inr (.inl (fun _ => 0))), .inl (E.2.2.2 0, 6, .inl (fun _ => 0)), .inl (E.2.2.2 1, 48, .inr (.inl (fun _ => 0))), .inl (E.2.2.2 1, 24, .inr (.inl (fun _ => 0))), .inl (E.2.2.2 1, 24, .inr (.inl (fun _ => 0))), .inl (E.2.2.2 1, 4, .inr (.inl (fun _ => 0))), .inl (E.2.2.2 0, 4, .inl (fun _ => 0)), .inl (E.2.2.2 2, 32, .inl (fun _ => 0)), .inl (E.2.2.2 0, 32, .inl (fun _ => 0)), .inl (E.2.2.2 0, 32, .inl (fun _ => 0)), .inl (E.2.2.2 1, 32, .inr (.inl (fun _ => 0)))]) 12 257 := by
  have hjl := (List.getElem?_eq_some_iff.mp hj).1
  refine bk_enter (by decide) rfl (Nat.le_of_ble_eq_true rfl) ?_
  refine bk_eq (bk_nf0 hj) ?_
  refine bk_aload_n dX4_init_0 rfl rfl ?_
  refine bk_oinit (bw_mem1 92 (by decide +kernel) rfl) ⟨(Nat.le_of_ble_eq_true rfl), (Nat.le_of_ble_eq_true rfl)⟩ dX4_init_1 ?_
  refine bk_aload_n dX4_init_4 rfl rfl ?_
  refine bk_aload_n dX4_init_5 rfl rfl ?_
  refine bn_put (k := 0) (x := t) hjl kf_X4_9 (fun _ => ⟨rfl, rfl⟩) (Nat.le_of_ble_eq_true rfl) dX4_init_6 ?_
  refine bk_aload_n dX4_init_9 rfl rfl ?_
  refine bn_new (ci := 3) (m := 0) hK rfl tyX3_ok in_X3 ⟨bw_mem1 93 (by decide +kernel) rfl, bw_mem1 94 (by decide +kernel) rfl, bw_mem1 5 (by decide +kernel) rfl⟩ rfl hfsX3 (Nat.le_of_ble_eq_true rfl) (Nat.le_of_ble_eq_true rfl) dX4_init_10 ?_
  refine bk_dup dX4_init_13 rfl ?_
  refine bn_callI (i := 0) (As := []) hK ki_BentWords_LexiconReader_17 (kX3 (K := K + 1) (bk_nf_at hK rfl) (bk_nf_len hK rfl)) rfl rfl (Nat.le_of_ble_eq_true rfl) ⟨(Nat.le_of_ble_eq_true rfl), (Nat.le_of_ble_eq_true rfl)⟩ ⟨(Nat.le_of_ble_eq_true rfl), (Nat.le_of_ble_eq_true rfl)⟩ dX4_init_14 ?_
  refine bn_put (k := 1) (x := K + 0) hjl kf_X4_18 (fun _ => ⟨rfl, rfl⟩) (Nat.le_of_ble_eq_true rfl) dX4_init_17 ?_
  exact bk_ret rfl rfl rfl rfl dX4_init_20
set_option maxRecDepth 20000 in
theorem kX6 {E : bw_E} {cs : List va_E} {j K : Nat} {t : Nat} (hj : cs[j]? = some (.inr (6, [.null]))) (hK : cs.length = K) : bk_run E 1 mX6_init [.ref j, .ref t] cs (bk_nf cs j (.inr (6, [.ref (E.1 (t))])) []) 0 0 := by
  have hjl := (List.getElem?_eq_some_iff.mp hj).1
  refine bk_enter (by decide) rfl (Nat.le_of_ble_eq_true rfl) ?_
  refine bk_eq (bk_nf0 hj) ?_
  refine bk_aload_n dX6_init_0 rfl rfl ?_
  refine bk_oinit (bw_mem1 187 (by decide +kernel) rfl) ⟨(Nat.le_of_ble_eq_true rfl), (Nat.le_of_ble_eq_true rfl)⟩ dX6_init_1 ?_
  refine bk_aload_n dX6_init_4 rfl rfl ?_
  refine bk_aload_n dX6_init_5 rfl rfl ?_
  refine bn_put (k := 0) (x := t) hjl kf_X6_9 (fun _ => ⟨rfl, rfl⟩) (Nat.le_of_ble_eq_true rfl) dX6_init_6 ?_
  exact bk_ret rfl rfl rfl rfl dX6_init_9
set_option maxRecDepth 20000 in
theorem kX7 {E : bw_E} {cs : List va_E} {j K : Nat} (hj : cs[j]? = some (.inr (7, [.null]))) (hK : cs.length = K) : bk_run E 1 mX7_init [.ref j] cs (bk_nf cs j (.inr (7, [.ref (E.1 (K + 0))])) [.inl (E.2.2.2 1, 52, .inr (.inl (fun _ => 0)))]) 1 52 := by
  have hjl := (List.getElem?_eq_some_iff.mp hj).1
  refine bk_enter (by decide) rfl (Nat.le_of_ble_eq_true rfl) ?_
  refine bk_eq (bk_nf0 hj) ?_
  refine bk_aload_n dX7_init_0 rfl rfl ?_
  refine bk_oinit (bw_mem2 14 (by decide +kernel) rfl) ⟨(Nat.le_of_ble_eq_true rfl), (Nat.le_of_ble_eq_true rfl)⟩ dX7_init_1 ?_
  refine bk_aload_n dX7_init_4 rfl rfl ?_
  refine bk_bipush (v := 52) dX7_init_5 rfl ?_
  refine bn_newl (m := 0) (N := 52) hK rfl rfl (by decide) (by decide) (Nat.le_of_ble_eq_true rfl) (Nat.le_of_ble_eq_true rfl) dX7_init_7 ?_
  refine bn_put (k := 0) (x := K + 0) hjl kf_X7_11 (fun _ => ⟨rfl, rfl⟩) (Nat.le_of_ble_eq_true rfl) dX7_init_9 ?_
  exact bk_ret rfl rfl rfl rfl dX7_init_12
set_option maxRecDepth 20000 in
theorem kX2 {E : bw_E} {cs : List va_E} {j K : Nat} (hj : cs[j]? = some (.inr (2, [.null, .int 0, .null, .null, .int 0]))) (hK : cs.length = K) : bk_run E 1 mX2_init [.ref j] cs (bk_nf cs j (.inr (2, [.ref (E.1 (K + 0)), .int 0, .ref (E.1 (K + 1)), .ref (E.1 (K + 2)), .int 0])) [.inl (E.2.2.2 0, 100, .inl (fun _ => 0)), .inl (E.2.2.2 0, 40, .inl (fun _ => 0)), .inl (E.2.2.2 1, 40, .inr (.inl (fun _ => 0)))]) 3 180 := by
  have hjl := (List.getElem?_eq_some_iff.mp hj).1
  refine bk_enter (by decide) rfl (Nat.le_of_ble_eq_true rfl) ?_
  refine bk_eq (bk_nf0 hj) ?_
  refine bk_aload_n dX2_init_0 rfl rfl ?_
  refine bk_oinit (bw_mem2 59 (by decide +kernel) rfl) ⟨(Nat.le_of_ble_eq_true rfl), (Nat.le_of_ble_eq_true rfl)⟩ dX2_init_1 ?_
  refine bk_aload_n dX2_init_4 rfl rfl ?_
  refine bk_bipush (v := 100) dX2_init_5 rfl ?_
  refine bn_newi (m := 0) (N := 100) hK rfl rfl (by decide) (by decide) (Nat.le_of_ble_eq_true rfl) (Nat.le_of_ble_eq_true rfl) dX2_init_7 ?_
  refine bn_put (k := 0) (x := K + 0) hjl kf_X2_11 (fun _ => ⟨rfl, rfl⟩) (Nat.le_of_ble_eq_true rfl) dX2_init_9 ?_
  refine bk_aload_n dX2_init_12 rfl rfl ?_
  refine bk_bipush (v := 40) dX2_init_13 rfl ?_
  refine bn_newi (m := 1) (N := 40) hK rfl rfl (by decide) (by decide) (Nat.le_of_ble_eq_true rfl) (Nat.le_of_ble_eq_true rfl) dX2_init_15 ?_
  refine bn_put (k := 2) (x := K + 1) hjl kf_X2_15 (fun _ => ⟨rfl, rfl⟩) (Nat.le_of_ble_eq_true rfl) dX2_init_17 ?_
  refine bk_aload_n dX2_init_20 rfl rfl ?_
  refine bk_bipush (v := 40) dX2_init_21 rfl ?_
  refine bn_newl (m := 2) (N := 40) hK rfl rfl (by decide) (by decide) (Nat.le_of_ble_eq_true rfl) (Nat.le_of_ble_eq_true rfl) dX2_init_23 ?_
  refine bn_put (k := 3) (x := K + 2) hjl kf_X2_18 (fun _ => ⟨rfl, rfl⟩) (Nat.le_of_ble_eq_true rfl) dX2_init_25 ?_
  exact bk_ret rfl rfl rfl rfl dX2_init_28
set_option maxRecDepth 20000 in
theorem kX10 {E : bw_E} {cs : List va_E} {j K : Nat} {t : Nat} {u : Nat} (hj : cs[j]? = some (.inr (10, [.null, .null, .null, .int 0, .int 0, .int 0, .int 0]))) (hK : cs.length = K) : bk_run E 1 mX10_init [.ref j, .ref t, .ref u] cs (bk_nf cs j (.inr (10, [.ref (E.1 (t)), .ref (E.1 (u)), .ref (E.1 (K + 0)), .int 0, .int 0, .int 0, .int 0])) [.inl (E.2.2.2 2, 144, .inl (fun _ => 0))]) 1 144 := by
  have hjl := (List.getElem?_eq_some_iff.mp hj).1
  refine bk_enter (by decide) rfl (Nat.le_of_ble_eq_true rfl) ?_
  refine bk_eq (bk_nf0 hj) ?_
  refine bk_aload_n dX10_init_0 rfl rfl ?_
  refine bk_oinit (bw_mem2 27 (by decide +kernel) rfl) ⟨(Nat.le_of_ble_eq_true rfl), (Nat.le_of_ble_eq_true rfl)⟩ dX10_init_1 ?_
  refine bk_aload_n dX10_init_4 rfl rfl ?_
  refine bk_aload_n dX10_init_5 rfl rfl ?_
  refine bn_put (k := 0) (x := t) hjl kf_X10_9 (fun _ => ⟨rfl, rfl⟩) (Nat.le_of_ble_eq_true rfl) dX10_init_6 ?_
  refine bk_aload_n dX10_init_9 rfl rfl ?_
  refine bk_aload_n dX10_init_10 rfl rfl ?_
  refine bn_put (k := 1) (x := u) hjl kf_X10_15 (fun _ => ⟨rfl, rfl⟩) (Nat.le_of_ble_eq_true rfl) dX10_init_11 ?_
  refine bk_aload_n dX10_init_14 rfl rfl ?_
  refine bk_sipush (v := 144) dX10_init_15 rfl ?_
  refine bn_newc (m := 0) (N := 144) hK rfl rfl (by decide) (by decide) (Nat.le_of_ble_eq_true rfl) (Nat.le_of_ble_eq_true rfl) dX10_init_18 ?_
  refine bn_put (k := 2) (x := K + 0) hjl kf_X10_19 (fun _ => ⟨rfl, rfl⟩) (Nat.le_of_ble_eq_true rfl) dX10_init_20 ?_
  exact bk_ret rfl rfl rfl rfl dX10_init_23
/-- so many references behind K -/
def bk_rf (E : bw_E) (K n : Nat) : Nat → Option Nat := fun q => if q < n then some (E.1 (K + (q + 1))) else none
theorem bk_rf_up {E : bw_E} {K n : Nat} : va_up (bk_rf E K n) n (some (E.1 (K + (n + 1)))) = bk_rf E K (n + 1) := by
  funext q
  unfold bk_rf va_up
  by_cases h : q = n
  · rw [if_pos h, if_pos (by omega), h]
  · rw [if_neg h]
    dsimp only
    by_cases h2 : q < n
    · rw [if_pos h2, if_pos (by omega)]
    · rw [if_neg h2, if_neg (by omega)]
abbrev bk_step : va_E := .inr (8, [.int 0, .int 0, .int 0, .int 0, .long 0])
def bk_sY (E : bw_E) (K i : Nat) : List va_E := .inl (E.2.2.2 4, 12, .inr (.inr (.inr (.inr (bk_rf E K i))))) :: List.replicate i bk_step
set_option maxRecDepth 20000 in
theorem kX5 {E : bw_E} {cs : List va_E} {j K : Nat} (hj : cs[j]? = some (.inr (5, [.int 0, .null]))) (hK : cs.length = K) : bk_run E 2 mX5_init [.ref j] cs (bk_nf cs j (.inr (5, [.int 0, .ref (E.1 (K + 0))])) (bk_sY E K 12)) 13 72 := by
  have hjl := (List.getElem?_eq_some_iff.mp hj).1
  have key : ∀ n i, i + n = 12 → bk_G E { frames := 2, cells := 13, slots := 72, locals := 40 * 2 } mX5_init 15 [some (.ref j), some (.int (nI i))] [] (bk_nf cs j (.inr (5, [.int 0, .ref (E.1 (K + 0))])) (bk_sY E K i)) (1 + i) (12 + 5 * i) 13 72 (bk_nf cs j (.inr (5, [.int 0, .ref (E.1 (K + 0))])) (bk_sY E K 12)) := by
    intro n
    induction n with
    | zero =>
      intro i h
      have e : i = 12 := by omega
      subst e
      refine bk_iload_n dX5_init_15 rfl rfl ?_
      refine bk_aload_n dX5_init_16 rfl rfl ?_
      refine bn_get (k := 1) (x := K + 0) hjl kf_X5_11 rfl dX5_init_17 ?_
      refine bn_alen (i := 0) (k := 4) (v := 12) hK rfl rfl rfl dX5_init_20 ?_
      refine bk_icge_yes (tgt := 43) dX5_init_21 rfl (by decide) ?_
      exact bk_ret rfl rfl rfl rfl dX5_init_43
    | succ n ih =>
      intro i h
      refine bk_iload_n dX5_init_15 rfl rfl ?_
      refine bk_aload_n dX5_init_16 rfl rfl ?_
      refine bn_get (k := 1) (x := K + 0) hjl kf_X5_11 rfl dX5_init_17 ?_
      refine bn_alen (i := 0) (k := 4) (v := 12) hK rfl rfl rfl dX5_init_20 ?_
      refine bk_icge_no (tgt := 43) dX5_init_21 rfl (nI_ge (a := i) (b := 12) (by omega) (by decide)) ?_
      refine bk_aload_n dX5_init_24 rfl rfl ?_
      refine bn_get (k := 1) (x := K + 0) hjl kf_X5_11 rfl dX5_init_25 ?_
      refine bk_iload_n dX5_init_28 rfl rfl ?_
      refine bn_new (ci := 8) (m := i + 1) hK (by unfold bk_sY; rw [List.length_cons, List.length_replicate]) tyX8_ok in_X8 ⟨bw_mem1 201 (by decide +kernel) rfl, bw_mem1 203 (by decide +kernel) rfl, bw_mem1 8 (by decide +kernel) rfl⟩ rfl hfsX8 (by show 1 + i + 1 ≤ 13; omega) (by show 12 + 5 * i + 5 ≤ 72; omega) dX5_init_29 ?_
      refine bk_dup dX5_init_32 rfl ?_
      refine bn_callN (x := K + (i + 1)) (As := []) ki_BentWords_Script_17 kX8 rfl rfl (Nat.le_of_ble_eq_true rfl) ⟨Nat.le_of_ble_eq_true rfl, Nat.le_of_ble_eq_true rfl⟩ ⟨by show 1 + i + 1 + 0 ≤ 13; omega, by show 12 + 5 * i + 5 + 0 ≤ 72; omega⟩ dX5_init_33 ?_
      refine bk_eq (cs1 := bk_nf cs j (.inr (5, [.int 0, .ref (E.1 (K + 0))])) (.inl (E.2.2.2 4, 12, .inr (.inr (.inr (.inr (bk_rf E K i))))) :: List.replicate (i + 1) bk_step)) ?_ ?_
      · congr 1
        unfold bk_sY
        rw [List.cons_append, List.replicate_succ']
      refine bn_aast (i := 0) (x := i + 1) (k := 4) (ci := 8) (v := nI i) (r := (RX8, TX8, 5)) (vs := [.int 0, .int 0, .int 0, .int 0, .long 0]) hK rfl rfl (by rw [List.getElem?_cons_succ, List.getElem?_replicate, if_pos (by omega)]) rfl (bm_in (by omega) (by decide)) dX5_init_36 ?_
      rw [nI_clamp (by omega), bk_rf_up]
      refine bk_iinc (v := nI (i + 1)) dX5_init_37 rfl (nI_1 i) (by decide) rfl ?_
      refine bk_goto (tgt := 15) dX5_init_40 rfl ?_
      have g := ih (i + 1) (by omega)
      rw [show 1 + (i + 1) = 1 + i + 1 by omega, show 12 + 5 * (i + 1) = 12 + 5 * i + 5 by omega] at g
      exact g
  refine bk_enter (by decide) rfl (Nat.le_of_ble_eq_true rfl) ?_
  refine bk_eq (bk_nf0 hj) ?_
  refine bk_aload_n dX5_init_0 rfl rfl ?_
  refine bk_oinit (bw_mem1 200 (by decide +kernel) rfl) ⟨(Nat.le_of_ble_eq_true rfl), (Nat.le_of_ble_eq_true rfl)⟩ dX5_init_1 ?_
  refine bk_aload_n dX5_init_4 rfl rfl ?_
  refine bk_bipush (v := 12) dX5_init_5 rfl ?_
  refine bn_newq (k := 4) (m := 0) (N := 12) hK rfl rfl (bw_mem1 201 (by decide +kernel) rfl) (fun U h => h.2.2) rfl (by decide) (by decide) (Nat.le_of_ble_eq_true rfl) (Nat.le_of_ble_eq_true rfl) dX5_init_7 ?_
  refine bn_put (k := 1) (x := K + 0) hjl kf_X5_11 (fun _ => ⟨rfl, rfl⟩) (Nat.le_of_ble_eq_true rfl) dX5_init_10 ?_
  refine bk_iconst (v := 0) dX5_init_13 rfl ?_
  refine bk_istore_n dX5_init_14 rfl (by decide) rfl ?_
  exact bk_eq (by congr 1) (key 12 0 rfl)
