theorem wfX0_rewind {E : bw_E} {d : Nat} {w : bw_W} {Q : bw_W → Prop}   (h : Q (sw_i w 3 1 0)) : bw_rv E (d + 0) mX0_rewind [.ref 3] w Q := by
  refine bw_enter rfl (Nat.le_of_ble_eq_true rfl) ?_
  refine bw_aload_n (i := 0) dX0_rewind_0 rfl rfl ?_
  refine bw_iconst (v := 0) dX0_rewind_1 (by decide) ?_
  refine bw_puti fp_BentWords_Cursor_15 rfl rfl rfl dX0_rewind_2 ?_
  exact bw_return dX0_rewind_5 rfl ⟨rfl, h⟩
theorem fs_X0_rewind {E : bw_E} {d : Nat} {w : bw_W} {Q : bw_W → Prop}    (h : Q (sw_i w 3 1 0)) : bw_rv E (d + 0) mX0_rewind [.ref 3] w Q := by
  refine wfX0_rewind  ?_
  exact h
theorem wfX0_fail {E : bw_E} {d : Nat} {w : bw_W} {Q : Bool → bw_W → Prop} {a0 : Int32}  (h : Q false (sw_i w 3 3 a0)) : bw_rb E (d + 0) mX0_fail [.ref 3, .int a0] w Q := by
  refine bw_enter rfl (Nat.le_of_ble_eq_true rfl) ?_
  refine bw_aload_n (i := 0) dX0_fail_0 rfl rfl ?_
  refine bw_iload_n (i := 1) dX0_fail_1 rfl rfl ?_
  refine bw_puti fp_BentWords_Cursor_19 rfl rfl rfl dX0_fail_2 ?_
  refine bw_iconst (v := 0) dX0_fail_5 (by decide) ?_
  exact bw_ireturn dX0_fail_6 rfl (bw_nb false) ⟨false, rfl, h⟩
theorem fs_X0_fail {E : bw_E} {d : Nat} {w : bw_W} {Q : Bool → bw_W → Prop} {a0 : Int32}   (h : Q (decide (False)) (sw_i w 3 3 a0)) : bw_rb E (d + 0) mX0_fail [.ref 3, .int a0] w Q := by
  refine wfX0_fail  ?_
  exact h
theorem wfX0_skipBlanks_0 {E : bw_E} {d : Nat} {w : bw_W} {Q : bw_W → Prop}   (h : (((gw_i w 1 1) ≤ (gw_i w 3 1) → Q w) ∧ (¬ ((gw_i w 1 1) ≤ (gw_i w 3 1)) → (vp_in (gw_i w 3 1) 480) ∧
((¬ (gw_i w 2 ((gw_i w 3 1).toNatClampNeg)) = 32 → Q w) ∧ ((gw_i w 2 ((gw_i w 3 1).toNatClampNeg)) = 32 → bw_G E (d + 0) mX0_skipBlanks 0 [some (.ref 3)] [] (sw_i w 3 1 ((gw_i w 3 1) + 1)) (bw_qv Q)))))) : bw_G E (d + 0) mX0_skipBlanks 0 [some (.ref 3)] [] w (bw_qv Q) := by
  refine bw_aload_n (i := 0) dX0_skipBlanks_0 rfl rfl ?_
  refine bw_geti fg_BentWords_Cursor_15 rfl dX0_skipBlanks_1 ?_
  refine bw_aload_n (i := 0) dX0_skipBlanks_4 rfl rfl ?_
  refine bw_getr (r := 1) fg_BentWords_Cursor_9 rfl rfl dX0_skipBlanks_5 ?_
  refine bw_geti fg_BentWords_Cursor_22 rfl dX0_skipBlanks_8 ?_
  refine bw_icmp_ge (tgt := 44) dX0_skipBlanks_11 (by decide) (fun c => ?_) (fun c => ?_)
  · replace h := h.1 (c)
    exact bw_return dX0_skipBlanks_44 rfl ⟨rfl, h⟩
  · replace h := h.2 (c)
    refine bw_aload_n (i := 0) dX0_skipBlanks_14 rfl rfl ?_
    refine bw_getr (r := 1) fg_BentWords_Cursor_9 rfl rfl dX0_skipBlanks_15 ?_
    refine bw_getr (r := 2) fg_BentWords_Cursor_27 rfl rfl dX0_skipBlanks_18 ?_
    refine bw_aload_n (i := 0) dX0_skipBlanks_21 rfl rfl ?_
    refine bw_geti fg_BentWords_Cursor_15 rfl dX0_skipBlanks_22 ?_
    obtain ⟨hi1, h⟩ := h
    refine bw_caload rfl hi1 dX0_skipBlanks_25 ?_
    refine bw_bipush (v := 32) dX0_skipBlanks_26 (by decide) ?_
    refine bw_icmp_ne (tgt := 44) dX0_skipBlanks_28 (by decide) (fun c => ?_) (fun c => ?_)
    · replace h := h.1 (c)
      exact bw_return dX0_skipBlanks_44 rfl ⟨rfl, h⟩
    · replace h := h.2 (c)
      refine bw_aload_n (i := 0) dX0_skipBlanks_31 rfl rfl ?_
      refine bw_dup dX0_skipBlanks_32 rfl ?_
      refine bw_geti fg_BentWords_Cursor_15 rfl dX0_skipBlanks_33 ?_
      refine bw_iconst (v := 1) dX0_skipBlanks_36 (by decide) ?_
      refine bw_iadd dX0_skipBlanks_37 ?_
      refine bw_puti fp_BentWords_Cursor_15 rfl rfl rfl dX0_skipBlanks_38 ?_
      refine bw_goto (tgt := 0) dX0_skipBlanks_41 (by decide) ?_
      exact h
theorem wfX0_skipBlanks {E : bw_E} {d : Nat} {w : bw_W} {Q : bw_W → Prop}   (h : bw_G E (d + 0) mX0_skipBlanks 0 [some (.ref 3)] [] w (bw_qv Q)) : bw_rv E (d + 0) mX0_skipBlanks [.ref 3] w Q := by
  refine bw_enter rfl (Nat.le_of_ble_eq_true rfl) ?_
  exact h
theorem wfX1_next {E : bw_E} {d : Nat} {w : bw_W} {Q : Int32 → bw_W → Prop} {a0 : Int32}  (h : ((1 ≤ a0 → (¬ (a0.toInt64) = 0) ∧
Q (((((((gw_l w 48 0) * 6364136223846793005) + 1442695040888963407).toUInt64 >>> ((33 : Int32).toInt64.toUInt64 &&& Int64.toUInt64 63)).toInt64) - (((((gw_l w 48 0) * 6364136223846793005) + 1442695040888963407).toUInt64 >>> ((33 : Int32).toInt64.toUInt64 &&& Int64.toUInt64 63)).toInt64) / (a0.toInt64) * (a0.toInt64)).toInt32) (sw_l w 48 0 (((gw_l w 48 0) * 6364136223846793005) + 1442695040888963407))) ∧ (¬ (1 ≤ a0) → Q 0 w))) : bw_ri E (d + 0) mX1_next [.ref 48, .int a0] w Q := by
  refine bw_enter rfl (Nat.le_of_ble_eq_true rfl) ?_
  refine bw_iload_n (i := 1) dX1_next_0 rfl rfl ?_
  refine bw_iconst (v := 1) dX1_next_1 (by decide) ?_
  refine bw_icmp_ge (tgt := 7) dX1_next_2 (by decide) (fun c => ?_) (fun c => ?_)
  · replace h := h.1 (c)
    refine bw_aload_n (i := 0) dX1_next_7 rfl rfl ?_
    refine bw_aload_n (i := 0) dX1_next_8 rfl rfl ?_
    refine bw_getl fg_BentWords_Draws_9 rfl dX1_next_9 ?_
    refine bw_ldc2 kl_BentWords_Draws_15 dX1_next_12 ?_
    refine bw_lmul dX1_next_15 ?_
    refine bw_ldc2 kl_BentWords_Draws_17 dX1_next_16 ?_
    refine bw_ladd dX1_next_19 ?_
    refine bw_putl fp_BentWords_Draws_9 rfl dX1_next_20 ?_
    refine bw_aload_n (i := 0) dX1_next_23 rfl rfl ?_
    refine bw_getl fg_BentWords_Draws_9 rfl dX1_next_24 ?_
    rw [show gw_l (sw_l w 48 0 (((gw_l w 48 0) * 6364136223846793005) + 1442695040888963407)) 48 0 = (((gw_l w 48 0) * 6364136223846793005) + 1442695040888963407) from rfl]
    refine bw_bipush (v := 33) dX1_next_27 (by decide) ?_
    refine bw_lushr dX1_next_29 ?_
    refine bw_iload_n (i := 1) dX1_next_30 rfl rfl ?_
    refine bw_i2l dX1_next_31 ?_
    obtain ⟨hz1, h⟩ := h
    refine bw_lrem dX1_next_32 hz1 ?_
    refine bw_l2i dX1_next_33 ?_
    exact bw_ireturn dX1_next_34 rfl rfl ⟨_, rfl, h⟩
  · replace h := h.2 (c)
    refine bw_iconst (v := 0) dX1_next_5 (by decide) ?_
    exact bw_ireturn dX1_next_6 rfl rfl ⟨_, rfl, h⟩
theorem wfX2_clear {E : bw_E} {d : Nat} {w : bw_W} {Q : bw_W → Prop}   (h : Q (sw_i (sw_i w 37 1 0) 37 4 0)) : bw_rv E (d + 0) mX2_clear [.ref 37] w Q := by
  refine bw_enter rfl (Nat.le_of_ble_eq_true rfl) ?_
  refine bw_aload_n (i := 0) dX2_clear_0 rfl rfl ?_
  refine bw_iconst (v := 0) dX2_clear_1 (by decide) ?_
  refine bw_puti fp_BentWords_History_22 rfl rfl rfl dX2_clear_2 ?_
  refine bw_aload_n (i := 0) dX2_clear_5 rfl rfl ?_
  refine bw_iconst (v := 0) dX2_clear_6 (by decide) ?_
  refine bw_puti fp_BentWords_History_26 rfl rfl rfl dX2_clear_7 ?_
  exact bw_return dX2_clear_10 rfl ⟨rfl, h⟩
theorem fs_X2_clear {E : bw_E} {d : Nat} {w : bw_W} {Q : bw_W → Prop}    (h : Q (sw_i (sw_i w 37 1 0) 37 4 0)) : bw_rv E (d + 0) mX2_clear [.ref 37] w Q := by
  refine wfX2_clear  ?_
  exact h
theorem wfX2_addRow {E : bw_E} {d : Nat} {w : bw_W} {Q : bw_W → Prop} {a0 : Int32} {a1 : Int32} {a2 : Int32}  (h : (vp_in ((gw_i w 37 1) - (gw_i w 37 1) / 100 * 100) 100) ∧
Q (sw_i (sw_i w 38 (((gw_i w 37 1) - (gw_i w 37 1) / 100 * 100).toNatClampNeg) ((((a0 * 10) + a1) * 10) + a2)) 37 1 ((gw_i w 37 1) + 1))) : bw_rv E (d + 0) mX2_addRow [.ref 37, .int a0, .int a1, .int a2] w Q := by
  refine bw_enter rfl (Nat.le_of_ble_eq_true rfl) ?_
  refine bw_aload_n (i := 0) dX2_addRow_0 rfl rfl ?_
  refine bw_getr (r := 38) fg_BentWords_History_11 rfl rfl dX2_addRow_1 ?_
  refine bw_aload_n (i := 0) dX2_addRow_4 rfl rfl ?_
  refine bw_geti fg_BentWords_History_22 rfl dX2_addRow_5 ?_
  refine bw_bipush (v := 100) dX2_addRow_8 (by decide) ?_
  refine bw_irem dX2_addRow_10 (by decide) ?_
  refine bw_iload_n (i := 1) dX2_addRow_11 rfl rfl ?_
  refine bw_bipush (v := 10) dX2_addRow_12 (by decide) ?_
  refine bw_imul dX2_addRow_14 ?_
  refine bw_iload_n (i := 2) dX2_addRow_15 rfl rfl ?_
  refine bw_iadd dX2_addRow_16 ?_
  refine bw_bipush (v := 10) dX2_addRow_17 (by decide) ?_
  refine bw_imul dX2_addRow_19 ?_
  refine bw_iload_n (i := 3) dX2_addRow_20 rfl rfl ?_
  refine bw_iadd dX2_addRow_21 ?_
  obtain ⟨hi1, h⟩ := h
  refine bw_iastore rfl hi1 dX2_addRow_22 ?_
  refine bw_aload_n (i := 0) dX2_addRow_23 rfl rfl ?_
  refine bw_dup dX2_addRow_24 rfl ?_
  refine bw_geti fg_BentWords_History_22 rfl dX2_addRow_25 ?_
  rw [show gw_i (sw_i w 38 (((gw_i w 37 1) - (gw_i w 37 1) / 100 * 100).toNatClampNeg) ((((a0 * 10) + a1) * 10) + a2)) 37 1 = (gw_i w 37 1) from rfl]
  refine bw_iconst (v := 1) dX2_addRow_28 (by decide) ?_
  refine bw_iadd dX2_addRow_29 ?_
  refine bw_puti fp_BentWords_History_22 rfl rfl rfl dX2_addRow_30 ?_
  exact bw_return dX2_addRow_33 rfl ⟨rfl, h⟩
theorem fs_X2_addRow {E : bw_E} {d : Nat} {w : bw_W} {Q : bw_W → Prop} {a0 : Int32} {a1 : Int32} {a2 : Int32}  (hc0 : (vp_in ((gw_i w 37 1) - (gw_i w 37 1) / 100 * 100) 100)) (h : Q (sw_i (sw_i w 38 (((gw_i w 37 1) - (gw_i w 37 1) / 100 * 100).toNatClampNeg) ((((a0 * 10) + a1) * 10) + a2)) 37 1 ((gw_i w 37 1) + 1))) : bw_rv E (d + 0) mX2_addRow [.ref 37, .int a0, .int a1, .int a2] w Q := by
  refine wfX2_addRow  ?_
  refine ⟨hc0 , ?_⟩
  exact h
theorem wfX2_rowAt {E : bw_E} {d : Nat} {w : bw_W} {Q : Int32 → bw_W → Prop} {a0 : Int32}  (h : (vp_in ((((gw_i w 37 1) - 1) - a0) - (((gw_i w 37 1) - 1) - a0) / 100 * 100) 100) ∧
Q (gw_i w 38 (((((gw_i w 37 1) - 1) - a0) - (((gw_i w 37 1) - 1) - a0) / 100 * 100).toNatClampNeg)) w) : bw_ri E (d + 0) mX2_rowAt [.ref 37, .int a0] w Q := by
  refine bw_enter rfl (Nat.le_of_ble_eq_true rfl) ?_
  refine bw_aload_n (i := 0) dX2_rowAt_0 rfl rfl ?_
  refine bw_getr (r := 38) fg_BentWords_History_11 rfl rfl dX2_rowAt_1 ?_
  refine bw_aload_n (i := 0) dX2_rowAt_4 rfl rfl ?_
  refine bw_geti fg_BentWords_History_22 rfl dX2_rowAt_5 ?_
  refine bw_iconst (v := 1) dX2_rowAt_8 (by decide) ?_
  refine bw_isub dX2_rowAt_9 ?_
  refine bw_iload_n (i := 1) dX2_rowAt_10 rfl rfl ?_
  refine bw_isub dX2_rowAt_11 ?_
  refine bw_bipush (v := 100) dX2_rowAt_12 (by decide) ?_
  refine bw_irem dX2_rowAt_14 (by decide) ?_
  obtain ⟨hi1, h⟩ := h
  refine bw_iaload rfl hi1 dX2_rowAt_15 ?_
  exact bw_ireturn dX2_rowAt_16 rfl rfl ⟨_, rfl, h⟩
def vX2_rowAt (w : bw_W) (a0 : Int32) : Int32 := (gw_i w 38 (((((gw_i w 37 1) - 1) - a0) - (((gw_i w 37 1) - 1) - a0) / 100 * 100).toNatClampNeg))
theorem fs_X2_rowAt {E : bw_E} {d : Nat} {w : bw_W} {Q : Int32 → bw_W → Prop} {a0 : Int32}  (hc0 : (vp_in ((((gw_i w 37 1) - 1) - a0) - (((gw_i w 37 1) - 1) - a0) / 100 * 100) 100)) (h : Q (vX2_rowAt w a0) w) : bw_ri E (d + 0) mX2_rowAt [.ref 37, .int a0] w Q := by
  refine wfX2_rowAt  ?_
  refine ⟨hc0 , ?_⟩
  exact h
theorem wfX2_sortIn {E : bw_E} {d : Nat} {w : bw_W} {Q : Int32 → bw_W → Prop} {a0 : Int32}  (h : Q (a0 / 100) w) : bw_ri E (d + 0) mX2_sortIn [.int a0] w Q := by
  refine bw_enter rfl (Nat.le_of_ble_eq_true rfl) ?_
  refine bw_iload_n (i := 0) dX2_sortIn_0 rfl rfl ?_
  refine bw_bipush (v := 100) dX2_sortIn_1 (by decide) ?_
  refine bw_idiv dX2_sortIn_3 (by decide) ?_
  exact bw_ireturn dX2_sortIn_4 rfl rfl ⟨_, rfl, h⟩
theorem fs_X2_sortIn {E : bw_E} {d : Nat} {w : bw_W} {Q : Int32 → bw_W → Prop} {a0 : Int32}   (h : Q (a0 / 100) w) : bw_ri E (d + 0) mX2_sortIn [.int a0] w Q := by
  refine wfX2_sortIn  ?_
  exact h
theorem wfX2_numberIn {E : bw_E} {d : Nat} {w : bw_W} {Q : Int32 → bw_W → Prop} {a0 : Int32}  (h : Q ((a0 / 10) - (a0 / 10) / 10 * 10) w) : bw_ri E (d + 0) mX2_numberIn [.int a0] w Q := by
  refine bw_enter rfl (Nat.le_of_ble_eq_true rfl) ?_
  refine bw_iload_n (i := 0) dX2_numberIn_0 rfl rfl ?_
  refine bw_bipush (v := 10) dX2_numberIn_1 (by decide) ?_
  refine bw_idiv dX2_numberIn_3 (by decide) ?_
  refine bw_bipush (v := 10) dX2_numberIn_4 (by decide) ?_
  refine bw_irem dX2_numberIn_6 (by decide) ?_
  exact bw_ireturn dX2_numberIn_7 rfl rfl ⟨_, rfl, h⟩
theorem fs_X2_numberIn {E : bw_E} {d : Nat} {w : bw_W} {Q : Int32 → bw_W → Prop} {a0 : Int32}   (h : Q ((a0 / 10) - (a0 / 10) / 10 * 10) w) : bw_ri E (d + 0) mX2_numberIn [.int a0] w Q := by
  refine wfX2_numberIn  ?_
  exact h
theorem wfX2_tellableIn {E : bw_E} {d : Nat} {w : bw_W} {Q : Int32 → bw_W → Prop} {a0 : Int32}  (h : Q (a0 - a0 / 10 * 10) w) : bw_ri E (d + 0) mX2_tellableIn [.int a0] w Q := by
  refine bw_enter rfl (Nat.le_of_ble_eq_true rfl) ?_
  refine bw_iload_n (i := 0) dX2_tellableIn_0 rfl rfl ?_
  refine bw_bipush (v := 10) dX2_tellableIn_1 (by decide) ?_
  refine bw_irem dX2_tellableIn_3 (by decide) ?_
  exact bw_ireturn dX2_tellableIn_4 rfl rfl ⟨_, rfl, h⟩
theorem fs_X2_tellableIn {E : bw_E} {d : Nat} {w : bw_W} {Q : Int32 → bw_W → Prop} {a0 : Int32}   (h : Q (a0 - a0 / 10 * 10) w) : bw_ri E (d + 0) mX2_tellableIn [.int a0] w Q := by
  refine wfX2_tellableIn  ?_
  exact h
theorem wfX2_undoLatest {E : bw_E} {d : Nat} {w : bw_W} {Q : bw_W → Prop}   (h : (((gw_i w 37 4) = 0 → Q w) ∧ (¬ ((gw_i w 37 4) = 0) → ((¬ (gw_i w 37 1) = 0 → (vp_in (((gw_i w 37 1) - 1) - ((gw_i w 37 1) - 1) / 40 * 40) 40) ∧
(vp_in (((gw_i w 37 1) - 1) - ((gw_i w 37 1) - 1) / 40 * 40) 40) ∧
(vp_in (gw_i w 39 ((((gw_i w 37 1) - 1) - ((gw_i w 37 1) - 1) / 40 * 40).toNatClampNeg)) 52) ∧
Q (sw_l (sw_i (sw_i w 37 1 ((gw_i w 37 1) - 1)) 37 4 ((gw_i w 37 4) - 1)) 32 ((gw_i w 39 ((((gw_i w 37 1) - 1) - ((gw_i w 37 1) - 1) / 40 * 40).toNatClampNeg)).toNatClampNeg) (gw_l w 40 ((((gw_i w 37 1) - 1) - ((gw_i w 37 1) - 1) / 40 * 40).toNatClampNeg)))) ∧ ((gw_i w 37 1) = 0 → Q w))))) : bw_rv E (d + 0) mX2_undoLatest [.ref 37, .ref 31] w Q := by
  refine bw_enter rfl (Nat.le_of_ble_eq_true rfl) ?_
  refine bw_aload_n (i := 0) dX2_undoLatest_0 rfl rfl ?_
  refine bw_geti fg_BentWords_History_26 rfl dX2_undoLatest_1 ?_
  refine bw_if_eq (tgt := 14) dX2_undoLatest_4 (by decide) (fun c => ?_) (fun c => ?_)
  · replace h := h.1 (c)
    exact bw_return dX2_undoLatest_14 rfl ⟨rfl, h⟩
  · replace h := h.2 (c)
    refine bw_aload_n (i := 0) dX2_undoLatest_7 rfl rfl ?_
    refine bw_geti fg_BentWords_History_22 rfl dX2_undoLatest_8 ?_
    refine bw_if_ne (tgt := 15) dX2_undoLatest_11 (by decide) (fun c => ?_) (fun c => ?_)
    · replace h := h.1 (c)
      refine bw_aload_n (i := 0) dX2_undoLatest_15 rfl rfl ?_
      refine bw_dup dX2_undoLatest_16 rfl ?_
      refine bw_geti fg_BentWords_History_22 rfl dX2_undoLatest_17 ?_
      refine bw_iconst (v := 1) dX2_undoLatest_20 (by decide) ?_
      refine bw_isub dX2_undoLatest_21 ?_
      refine bw_puti fp_BentWords_History_22 rfl rfl rfl dX2_undoLatest_22 ?_
      refine bw_aload_n (i := 0) dX2_undoLatest_25 rfl rfl ?_
      refine bw_dup dX2_undoLatest_26 rfl ?_
      refine bw_geti fg_BentWords_History_26 rfl dX2_undoLatest_27 ?_
      rw [show gw_i (sw_i w 37 1 ((gw_i w 37 1) - 1)) 37 4 = (gw_i w 37 4) from rfl]
      refine bw_iconst (v := 1) dX2_undoLatest_30 (by decide) ?_
      refine bw_isub dX2_undoLatest_31 ?_
      refine bw_puti fp_BentWords_History_26 rfl rfl rfl dX2_undoLatest_32 ?_
      refine bw_aload_n (i := 0) dX2_undoLatest_35 rfl rfl ?_
      refine bw_geti fg_BentWords_History_22 rfl dX2_undoLatest_36 ?_
      rw [show gw_i (sw_i (sw_i w 37 1 ((gw_i w 37 1) - 1)) 37 4 ((gw_i w 37 4) - 1)) 37 1 = ((gw_i w 37 1) - 1) from rfl]
      refine bw_bipush (v := 40) dX2_undoLatest_39 (by decide) ?_
      refine bw_irem dX2_undoLatest_41 (by decide) ?_
      refine bw_istore_n (i := 2) (L' := [some (.ref 37), some (.ref 31), some (.int (((gw_i w 37 1) - 1) - ((gw_i w 37 1) - 1) / 40 * 40))]) dX2_undoLatest_42 rfl (Nat.le_of_ble_eq_true rfl) rfl ?_
      refine bw_aload_n (i := 1) dX2_undoLatest_43 rfl rfl ?_
      refine bw_getr (r := 32) fg_BentWords_History_35 rfl rfl dX2_undoLatest_44 ?_
      refine bw_aload_n (i := 0) dX2_undoLatest_47 rfl rfl ?_
      refine bw_getr (r := 39) fg_BentWords_History_15 rfl rfl dX2_undoLatest_48 ?_
      refine bw_iload_n (i := 2) dX2_undoLatest_51 rfl rfl ?_
      obtain ⟨hi1, h⟩ := h
      refine bw_iaload rfl hi1 dX2_undoLatest_52 ?_
      rw [show gw_i (sw_i (sw_i w 37 1 ((gw_i w 37 1) - 1)) 37 4 ((gw_i w 37 4) - 1)) 39 ((((gw_i w 37 1) - 1) - ((gw_i w 37 1) - 1) / 40 * 40).toNatClampNeg) = (gw_i w 39 ((((gw_i w 37 1) - 1) - ((gw_i w 37 1) - 1) / 40 * 40).toNatClampNeg)) from by first | rfl | (simp [gs_ii, gs_ll, gs_il, gs_li]; done)]
      refine bw_aload_n (i := 0) dX2_undoLatest_53 rfl rfl ?_
      refine bw_getr (r := 40) fg_BentWords_History_18 rfl rfl dX2_undoLatest_54 ?_
      refine bw_iload_n (i := 2) dX2_undoLatest_57 rfl rfl ?_
      obtain ⟨hi2, h⟩ := h
      refine bw_laload rfl hi2 dX2_undoLatest_58 ?_
      rw [show gw_l (sw_i (sw_i w 37 1 ((gw_i w 37 1) - 1)) 37 4 ((gw_i w 37 4) - 1)) 40 ((((gw_i w 37 1) - 1) - ((gw_i w 37 1) - 1) / 40 * 40).toNatClampNeg) = (gw_l w 40 ((((gw_i w 37 1) - 1) - ((gw_i w 37 1) - 1) / 40 * 40).toNatClampNeg)) from by first | rfl | (simp [gs_ii, gs_ll, gs_il, gs_li]; done)]
      obtain ⟨hi3, h⟩ := h
      refine bw_lastore rfl hi3 dX2_undoLatest_59 ?_
      exact bw_return dX2_undoLatest_60 rfl ⟨rfl, h⟩
    · replace h := h.2 (c)
      exact bw_return dX2_undoLatest_14 rfl ⟨rfl, h⟩
theorem wfX3_clearRow_2 {E : bw_E} {d : Nat} {w : bw_W} {Q : bw_W → Prop} {tn : Nat} {ta : Nat} {l1 : Int32} (h_ta : bw_sh ta = (2, tn, 0)) (h : (((nI tn) ≤ l1 → Q w) ∧ (¬ ((nI tn) ≤ l1) → (vp_in l1 tn) ∧
bw_G E (d + 0) mX3_clearRow 2 [some (.ref ta), some (.int (l1 + 1))] [] (sw_l w ta (l1.toNatClampNeg) 0) (bw_qv Q)))) : bw_G E (d + 0) mX3_clearRow 2 [some (.ref ta), some (.int l1)] [] w (bw_qv Q) := by
  refine bw_iload_n (i := 1) dX3_clearRow_2 rfl rfl ?_
  refine bw_aload_n (i := 0) dX3_clearRow_3 rfl rfl ?_
  refine bw_alenl (v := (nI tn)) h_ta rfl dX3_clearRow_4 ?_
  refine bw_icmp_ge (tgt := 18) dX3_clearRow_5 (by decide) (fun c => ?_) (fun c => ?_)
  · replace h := h.1 (c)
    exact bw_return dX3_clearRow_18 rfl ⟨rfl, h⟩
  · replace h := h.2 (c)
    refine bw_aload_n (i := 0) dX3_clearRow_8 rfl rfl ?_
    refine bw_iload_n (i := 1) dX3_clearRow_9 rfl rfl ?_
    refine bw_lconst (v := 0) dX3_clearRow_10 rfl ?_
    obtain ⟨hi1, h⟩ := h
    refine bw_lastore h_ta hi1 dX3_clearRow_11 ?_
    refine bw_iinc (i := 1) (x := l1) (v := (l1 + 1)) (L' := [some (.ref ta), some (.int (l1 + 1))]) dX3_clearRow_12 rfl rfl (Nat.le_of_ble_eq_true rfl) rfl ?_
    refine bw_goto (tgt := 2) dX3_clearRow_15 (by decide) ?_
    exact h
theorem wfX3_clearRow {E : bw_E} {d : Nat} {w : bw_W} {Q : bw_W → Prop} {tn : Nat} {ta : Nat} (h_ta : bw_sh ta = (2, tn, 0)) (h : bw_G E (d + 0) mX3_clearRow 2 [some (.ref ta), some (.int 0)] [] w (bw_qv Q)) : bw_rv E (d + 0) mX3_clearRow [.ref ta] w Q := by
  refine bw_enter rfl (Nat.le_of_ble_eq_true rfl) ?_
  refine bw_iconst (v := 0) dX3_clearRow_0 (by decide) ?_
  refine bw_istore_n (i := 1) (L' := [some (.ref ta), some (.int 0)]) dX3_clearRow_1 rfl (Nat.le_of_ble_eq_true rfl) rfl ?_
  exact h
theorem wfX3_nounNamed_2 {E : bw_E} {d : Nat} {w : bw_W} {Q : Int32 → bw_W → Prop} {l1 : Int64} {l3 : Int32}  (h : (((gw_i w 5 0) ≤ l3 → Q (-1) w) ∧ (¬ ((gw_i w 5 0) ≤ l3) → (vp_in l3 6) ∧
((¬ (gw_l w 6 (l3.toNatClampNeg)) = l1 → bw_G E (d + 0) mX3_nounNamed 2 [some (.ref 5), some (.long l1), none, some (.int (l3 + 1))] [] w (bw_qi Q)) ∧ ((gw_l w 6 (l3.toNatClampNeg)) = l1 → Q l3 w))))) : bw_G E (d + 0) mX3_nounNamed 2 [some (.ref 5), some (.long l1), none, some (.int l3)] [] w (bw_qi Q) := by
  refine bw_iload_n (i := 3) dX3_nounNamed_2 rfl rfl ?_
  refine bw_aload_n (i := 0) dX3_nounNamed_3 rfl rfl ?_
  refine bw_geti fg_BentWords_Lexicon_47 rfl dX3_nounNamed_4 ?_
  refine bw_icmp_ge (tgt := 29) dX3_nounNamed_7 (by decide) (fun c => ?_) (fun c => ?_)
  · replace h := h.1 (c)
    refine bw_iconst (v := (-1)) dX3_nounNamed_29 (by decide) ?_
    exact bw_ireturn dX3_nounNamed_30 rfl rfl ⟨_, rfl, h⟩
  · replace h := h.2 (c)
    refine bw_aload_n (i := 0) dX3_nounNamed_10 rfl rfl ?_
    refine bw_getr (r := 6) fg_BentWords_Lexicon_9 rfl rfl dX3_nounNamed_11 ?_
    refine bw_iload_n (i := 3) dX3_nounNamed_14 rfl rfl ?_
    obtain ⟨hi1, h⟩ := h
    refine bw_laload rfl hi1 dX3_nounNamed_15 ?_
    refine bw_lload_n (i := 1) dX3_nounNamed_16 rfl rfl ?_
    refine bw_lcmp_ne (tgt := 23) dX3_nounNamed_17 dX3_nounNamed_18 (by decide) (fun c => ?_) (fun c => ?_)
    · replace h := h.1 (c)
      refine bw_iinc (i := 3) (x := l3) (v := (l3 + 1)) (L' := [some (.ref 5), some (.long l1), none, some (.int (l3 + 1))]) dX3_nounNamed_23 rfl rfl (Nat.le_of_ble_eq_true rfl) rfl ?_
      refine bw_goto (tgt := 2) dX3_nounNamed_26 (by decide) ?_
      exact h
    · replace h := h.2 (c)
      refine bw_iload_n (i := 3) dX3_nounNamed_21 rfl rfl ?_
      exact bw_ireturn dX3_nounNamed_22 rfl rfl ⟨_, rfl, h⟩
theorem wfX3_nounNamed {E : bw_E} {d : Nat} {w : bw_W} {Q : Int32 → bw_W → Prop} {a0 : Int64}  (h : bw_G E (d + 0) mX3_nounNamed 2 [some (.ref 5), some (.long a0), none, some (.int 0)] [] w (bw_qi Q)) : bw_ri E (d + 0) mX3_nounNamed [.ref 5, .long a0] w Q := by
  refine bw_enter rfl (Nat.le_of_ble_eq_true rfl) ?_
  refine bw_iconst (v := 0) dX3_nounNamed_0 (by decide) ?_
  refine bw_istore_n (i := 3) (L' := [some (.ref 5), some (.long a0), none, some (.int 0)]) dX3_nounNamed_1 rfl (Nat.le_of_ble_eq_true rfl) rfl ?_
  exact h
theorem wfX3_messageNamed_2 {E : bw_E} {d : Nat} {w : bw_W} {Q : Int32 → bw_W → Prop} {l1 : Int64} {l3 : Int32}  (h : (((gw_i w 5 6) ≤ l3 → Q (-1) w) ∧ (¬ ((gw_i w 5 6) ≤ l3) → (vp_in l3 4) ∧
((¬ (gw_l w 11 (l3.toNatClampNeg)) = l1 → bw_G E (d + 0) mX3_messageNamed 2 [some (.ref 5), some (.long l1), none, some (.int (l3 + 1))] [] w (bw_qi Q)) ∧ ((gw_l w 11 (l3.toNatClampNeg)) = l1 → Q l3 w))))) : bw_G E (d + 0) mX3_messageNamed 2 [some (.ref 5), some (.long l1), none, some (.int l3)] [] w (bw_qi Q) := by
  refine bw_iload_n (i := 3) dX3_messageNamed_2 rfl rfl ?_
  refine bw_aload_n (i := 0) dX3_messageNamed_3 rfl rfl ?_
  refine bw_geti fg_BentWords_Lexicon_51 rfl dX3_messageNamed_4 ?_
  refine bw_icmp_ge (tgt := 29) dX3_messageNamed_7 (by decide) (fun c => ?_) (fun c => ?_)
  · replace h := h.1 (c)
    refine bw_iconst (v := (-1)) dX3_messageNamed_29 (by decide) ?_
    exact bw_ireturn dX3_messageNamed_30 rfl rfl ⟨_, rfl, h⟩
  · replace h := h.2 (c)
    refine bw_aload_n (i := 0) dX3_messageNamed_10 rfl rfl ?_
    refine bw_getr (r := 11) fg_BentWords_Lexicon_28 rfl rfl dX3_messageNamed_11 ?_
    refine bw_iload_n (i := 3) dX3_messageNamed_14 rfl rfl ?_
    obtain ⟨hi1, h⟩ := h
    refine bw_laload rfl hi1 dX3_messageNamed_15 ?_
    refine bw_lload_n (i := 1) dX3_messageNamed_16 rfl rfl ?_
    refine bw_lcmp_ne (tgt := 23) dX3_messageNamed_17 dX3_messageNamed_18 (by decide) (fun c => ?_) (fun c => ?_)
    · replace h := h.1 (c)
      refine bw_iinc (i := 3) (x := l3) (v := (l3 + 1)) (L' := [some (.ref 5), some (.long l1), none, some (.int (l3 + 1))]) dX3_messageNamed_23 rfl rfl (Nat.le_of_ble_eq_true rfl) rfl ?_
      refine bw_goto (tgt := 2) dX3_messageNamed_26 (by decide) ?_
      exact h
    · replace h := h.2 (c)
      refine bw_iload_n (i := 3) dX3_messageNamed_21 rfl rfl ?_
      exact bw_ireturn dX3_messageNamed_22 rfl rfl ⟨_, rfl, h⟩
theorem wfX3_messageNamed {E : bw_E} {d : Nat} {w : bw_W} {Q : Int32 → bw_W → Prop} {a0 : Int64}  (h : bw_G E (d + 0) mX3_messageNamed 2 [some (.ref 5), some (.long a0), none, some (.int 0)] [] w (bw_qi Q)) : bw_ri E (d + 0) mX3_messageNamed [.ref 5, .long a0] w Q := by
  refine bw_enter rfl (Nat.le_of_ble_eq_true rfl) ?_
  refine bw_iconst (v := 0) dX3_messageNamed_0 (by decide) ?_
  refine bw_istore_n (i := 3) (L' := [some (.ref 5), some (.long a0), none, some (.int 0)]) dX3_messageNamed_1 rfl (Nat.le_of_ble_eq_true rfl) rfl ?_
  exact h
theorem wfX3_boundSlot {E : bw_E} {d : Nat} {w : bw_W} {Q : Int32 → bw_W → Prop} {a0 : Int32} {a1 : Int32} {a2 : Int32}  (h : Q ((((a0 * 2) + a1) * 3) + a2) w) : bw_ri E (d + 0) mX3_boundSlot [.int a0, .int a1, .int a2] w Q := by
  refine bw_enter rfl (Nat.le_of_ble_eq_true rfl) ?_
  refine bw_iload_n (i := 0) dX3_boundSlot_0 rfl rfl ?_
  refine bw_iconst (v := 2) dX3_boundSlot_1 (by decide) ?_
  refine bw_imul dX3_boundSlot_2 ?_
  refine bw_iload_n (i := 1) dX3_boundSlot_3 rfl rfl ?_
  refine bw_iadd dX3_boundSlot_4 ?_
  refine bw_iconst (v := 3) dX3_boundSlot_5 (by decide) ?_
  refine bw_imul dX3_boundSlot_6 ?_
  refine bw_iload_n (i := 2) dX3_boundSlot_7 rfl rfl ?_
  refine bw_iadd dX3_boundSlot_8 ?_
  exact bw_ireturn dX3_boundSlot_9 rfl rfl ⟨_, rfl, h⟩
theorem fs_X3_boundSlot {E : bw_E} {d : Nat} {w : bw_W} {Q : Int32 → bw_W → Prop} {a0 : Int32} {a1 : Int32} {a2 : Int32}   (h : Q ((((a0 * 2) + a1) * 3) + a2) w) : bw_ri E (d + 0) mX3_boundSlot [.int a0, .int a1, .int a2] w Q := by
  refine wfX3_boundSlot  ?_
  exact h
theorem wfX3_holesAskedBy_10 {E : bw_E} {d : Nat} {w : bw_W} {Q : Int32 → bw_W → Prop} {l1 : Int32} {l2 : Int32} {l3 : Int32} {l4 : Int32}  (h : (vp_in l1 4) ∧
(((l3 + (gw_i w 25 (l1.toNatClampNeg))) ≤ l4 → Q l2 w) ∧ (¬ ((l3 + (gw_i w 25 (l1.toNatClampNeg))) ≤ l4) → (vp_in l4 32) ∧
(((gw_i w 26 (l4.toNatClampNeg)) = 119 → (vp_in l4 32) ∧
(((gw_i w 26 (l4.toNatClampNeg)) = 61 → (vp_in l4 32) ∧
bw_G E (d + 0) mX3_holesAskedBy 10 [some (.ref 18), some (.int l1), some (.int (l2 ||| ((1 : Int32) <<< ((gw_i w 28 (l4.toNatClampNeg)) &&& 31)))), some (.int l3), some (.int (l4 + 1))] [] w (bw_qi Q)) ∧ (¬ ((gw_i w 26 (l4.toNatClampNeg)) = 61) → (vp_in l4 32) ∧
((¬ (gw_i w 26 (l4.toNatClampNeg)) = 33 → bw_G E (d + 0) mX3_holesAskedBy 10 [some (.ref 18), some (.int l1), some (.int l2), some (.int l3), some (.int (l4 + 1))] [] w (bw_qi Q)) ∧ ((gw_i w 26 (l4.toNatClampNeg)) = 33 → (vp_in l4 32) ∧
bw_G E (d + 0) mX3_holesAskedBy 10 [some (.ref 18), some (.int l1), some (.int (l2 ||| ((1 : Int32) <<< ((gw_i w 28 (l4.toNatClampNeg)) &&& 31)))), some (.int l3), some (.int (l4 + 1))] [] w (bw_qi Q)))))) ∧ (¬ ((gw_i w 26 (l4.toNatClampNeg)) = 119) → (vp_in l4 32) ∧
(vp_in l4 32) ∧
(((gw_i w 26 (l4.toNatClampNeg)) = 61 → (vp_in l4 32) ∧
bw_G E (d + 0) mX3_holesAskedBy 10 [some (.ref 18), some (.int l1), some (.int ((l2 ||| ((1 : Int32) <<< ((gw_i w 27 (l4.toNatClampNeg)) &&& 31))) ||| ((1 : Int32) <<< ((gw_i w 28 (l4.toNatClampNeg)) &&& 31)))), some (.int l3), some (.int (l4 + 1))] [] w (bw_qi Q)) ∧ (¬ ((gw_i w 26 (l4.toNatClampNeg)) = 61) → (vp_in l4 32) ∧
((¬ (gw_i w 26 (l4.toNatClampNeg)) = 33 → bw_G E (d + 0) mX3_holesAskedBy 10 [some (.ref 18), some (.int l1), some (.int (l2 ||| ((1 : Int32) <<< ((gw_i w 27 (l4.toNatClampNeg)) &&& 31)))), some (.int l3), some (.int (l4 + 1))] [] w (bw_qi Q)) ∧ ((gw_i w 26 (l4.toNatClampNeg)) = 33 → (vp_in l4 32) ∧
bw_G E (d + 0) mX3_holesAskedBy 10 [some (.ref 18), some (.int l1), some (.int ((l2 ||| ((1 : Int32) <<< ((gw_i w 27 (l4.toNatClampNeg)) &&& 31))) ||| ((1 : Int32) <<< ((gw_i w 28 (l4.toNatClampNeg)) &&& 31)))), some (.int l3), some (.int (l4 + 1))] [] w (bw_qi Q)))))))))) : bw_G E (d + 0) mX3_holesAskedBy 10 [some (.ref 18), some (.int l1), some (.int l2), some (.int l3), some (.int l4)] [] w (bw_qi Q) := by
  refine bw_iload dX3_holesAskedBy_10 rfl ?_
  refine bw_iload_n (i := 3) dX3_holesAskedBy_12 rfl rfl ?_
  refine bw_aload_n (i := 0) dX3_holesAskedBy_13 rfl rfl ?_
  refine bw_getr (r := 25) fg_BentWords_Lexicon_31 rfl rfl dX3_holesAskedBy_14 ?_
  refine bw_iload_n (i := 1) dX3_holesAskedBy_17 rfl rfl ?_
  obtain ⟨hi1, h⟩ := h
  refine bw_iaload rfl hi1 dX3_holesAskedBy_18 ?_
  refine bw_iadd dX3_holesAskedBy_19 ?_
  refine bw_icmp_ge (tgt := 89) dX3_holesAskedBy_20 (by decide) (fun c => ?_) (fun c => ?_)
  · replace h := h.1 (c)
    refine bw_iload_n (i := 2) dX3_holesAskedBy_89 rfl rfl ?_
    exact bw_ireturn dX3_holesAskedBy_90 rfl rfl ⟨_, rfl, h⟩
  · replace h := h.2 (c)
    refine bw_aload_n (i := 0) dX3_holesAskedBy_23 rfl rfl ?_
    refine bw_getr (r := 26) fg_BentWords_Lexicon_34 rfl rfl dX3_holesAskedBy_24 ?_
    refine bw_iload dX3_holesAskedBy_27 rfl ?_
    obtain ⟨hi2, h⟩ := h
    refine bw_caload rfl hi2 dX3_holesAskedBy_29 ?_
    refine bw_bipush (v := 119) dX3_holesAskedBy_30 (by decide) ?_
    refine bw_icmp_eq (tgt := 47) dX3_holesAskedBy_32 (by decide) (fun c => ?_) (fun c => ?_)
    · replace h := h.1 (c)
      refine bw_aload_n (i := 0) dX3_holesAskedBy_47 rfl rfl ?_
      refine bw_getr (r := 26) fg_BentWords_Lexicon_34 rfl rfl dX3_holesAskedBy_48 ?_
      refine bw_iload dX3_holesAskedBy_51 rfl ?_
      obtain ⟨hi3, h⟩ := h
      refine bw_caload rfl hi3 dX3_holesAskedBy_53 ?_
      refine bw_bipush (v := 61) dX3_holesAskedBy_54 (by decide) ?_
      refine bw_icmp_eq (tgt := 71) dX3_holesAskedBy_56 (by decide) (fun c => ?_) (fun c => ?_)
      · replace h := h.1 (c)
        refine bw_iload_n (i := 2) dX3_holesAskedBy_71 rfl rfl ?_
        refine bw_iconst (v := 1) dX3_holesAskedBy_72 (by decide) ?_
        refine bw_aload_n (i := 0) dX3_holesAskedBy_73 rfl rfl ?_
        refine bw_getr (r := 28) fg_BentWords_Lexicon_41 rfl rfl dX3_holesAskedBy_74 ?_
        refine bw_iload dX3_holesAskedBy_77 rfl ?_
        obtain ⟨hi4, h⟩ := h
        refine bw_iaload rfl hi4 dX3_holesAskedBy_79 ?_
        refine bw_ishl dX3_holesAskedBy_80 ?_
        refine bw_ior dX3_holesAskedBy_81 ?_
        refine bw_istore_n (i := 2) (L' := [some (.ref 18), some (.int l1), some (.int (l2 ||| ((1 : Int32) <<< ((gw_i w 28 (l4.toNatClampNeg)) &&& 31)))), some (.int l3), some (.int l4)]) dX3_holesAskedBy_82 rfl (Nat.le_of_ble_eq_true rfl) rfl ?_
        refine bw_iinc (i := 4) (x := l4) (v := (l4 + 1)) (L' := [some (.ref 18), some (.int l1), some (.int (l2 ||| ((1 : Int32) <<< ((gw_i w 28 (l4.toNatClampNeg)) &&& 31)))), some (.int l3), some (.int (l4 + 1))]) dX3_holesAskedBy_83 rfl rfl (Nat.le_of_ble_eq_true rfl) rfl ?_
        refine bw_goto (tgt := 10) dX3_holesAskedBy_86 (by decide) ?_
        exact h
      · replace h := h.2 (c)
        refine bw_aload_n (i := 0) dX3_holesAskedBy_59 rfl rfl ?_
        refine bw_getr (r := 26) fg_BentWords_Lexicon_34 rfl rfl dX3_holesAskedBy_60 ?_
        refine bw_iload dX3_holesAskedBy_63 rfl ?_
        obtain ⟨hi5, h⟩ := h
        refine bw_caload rfl hi5 dX3_holesAskedBy_65 ?_
        refine bw_bipush (v := 33) dX3_holesAskedBy_66 (by decide) ?_
        refine bw_icmp_ne (tgt := 83) dX3_holesAskedBy_68 (by decide) (fun c => ?_) (fun c => ?_)
        · replace h := h.1 (c)
          refine bw_iinc (i := 4) (x := l4) (v := (l4 + 1)) (L' := [some (.ref 18), some (.int l1), some (.int l2), some (.int l3), some (.int (l4 + 1))]) dX3_holesAskedBy_83 rfl rfl (Nat.le_of_ble_eq_true rfl) rfl ?_
          refine bw_goto (tgt := 10) dX3_holesAskedBy_86 (by decide) ?_
          exact h
        · replace h := h.2 (c)
          refine bw_iload_n (i := 2) dX3_holesAskedBy_71 rfl rfl ?_
          refine bw_iconst (v := 1) dX3_holesAskedBy_72 (by decide) ?_
          refine bw_aload_n (i := 0) dX3_holesAskedBy_73 rfl rfl ?_
          refine bw_getr (r := 28) fg_BentWords_Lexicon_41 rfl rfl dX3_holesAskedBy_74 ?_
          refine bw_iload dX3_holesAskedBy_77 rfl ?_
          obtain ⟨hi6, h⟩ := h
          refine bw_iaload rfl hi6 dX3_holesAskedBy_79 ?_
          refine bw_ishl dX3_holesAskedBy_80 ?_
          refine bw_ior dX3_holesAskedBy_81 ?_
          refine bw_istore_n (i := 2) (L' := [some (.ref 18), some (.int l1), some (.int (l2 ||| ((1 : Int32) <<< ((gw_i w 28 (l4.toNatClampNeg)) &&& 31)))), some (.int l3), some (.int l4)]) dX3_holesAskedBy_82 rfl (Nat.le_of_ble_eq_true rfl) rfl ?_
          refine bw_iinc (i := 4) (x := l4) (v := (l4 + 1)) (L' := [some (.ref 18), some (.int l1), some (.int (l2 ||| ((1 : Int32) <<< ((gw_i w 28 (l4.toNatClampNeg)) &&& 31)))), some (.int l3), some (.int (l4 + 1))]) dX3_holesAskedBy_83 rfl rfl (Nat.le_of_ble_eq_true rfl) rfl ?_
          refine bw_goto (tgt := 10) dX3_holesAskedBy_86 (by decide) ?_
          exact h
    · replace h := h.2 (c)
      refine bw_iload_n (i := 2) dX3_holesAskedBy_35 rfl rfl ?_
      refine bw_iconst (v := 1) dX3_holesAskedBy_36 (by decide) ?_
      refine bw_aload_n (i := 0) dX3_holesAskedBy_37 rfl rfl ?_
      refine bw_getr (r := 27) fg_BentWords_Lexicon_38 rfl rfl dX3_holesAskedBy_38 ?_
      refine bw_iload dX3_holesAskedBy_41 rfl ?_
      obtain ⟨hi7, h⟩ := h
      refine bw_iaload rfl hi7 dX3_holesAskedBy_43 ?_
      refine bw_ishl dX3_holesAskedBy_44 ?_
      refine bw_ior dX3_holesAskedBy_45 ?_
      refine bw_istore_n (i := 2) (L' := [some (.ref 18), some (.int l1), some (.int (l2 ||| ((1 : Int32) <<< ((gw_i w 27 (l4.toNatClampNeg)) &&& 31)))), some (.int l3), some (.int l4)]) dX3_holesAskedBy_46 rfl (Nat.le_of_ble_eq_true rfl) rfl ?_
      refine bw_aload_n (i := 0) dX3_holesAskedBy_47 rfl rfl ?_
      refine bw_getr (r := 26) fg_BentWords_Lexicon_34 rfl rfl dX3_holesAskedBy_48 ?_
      refine bw_iload dX3_holesAskedBy_51 rfl ?_
      obtain ⟨hi8, h⟩ := h
      refine bw_caload rfl hi8 dX3_holesAskedBy_53 ?_
      refine bw_bipush (v := 61) dX3_holesAskedBy_54 (by decide) ?_
      refine bw_icmp_eq (tgt := 71) dX3_holesAskedBy_56 (by decide) (fun c => ?_) (fun c => ?_)
      · replace h := h.1 (c)
        refine bw_iload_n (i := 2) dX3_holesAskedBy_71 rfl rfl ?_
        refine bw_iconst (v := 1) dX3_holesAskedBy_72 (by decide) ?_
        refine bw_aload_n (i := 0) dX3_holesAskedBy_73 rfl rfl ?_
        refine bw_getr (r := 28) fg_BentWords_Lexicon_41 rfl rfl dX3_holesAskedBy_74 ?_
        refine bw_iload dX3_holesAskedBy_77 rfl ?_
        obtain ⟨hi9, h⟩ := h
        refine bw_iaload rfl hi9 dX3_holesAskedBy_79 ?_
        refine bw_ishl dX3_holesAskedBy_80 ?_
        refine bw_ior dX3_holesAskedBy_81 ?_
        refine bw_istore_n (i := 2) (L' := [some (.ref 18), some (.int l1), some (.int ((l2 ||| ((1 : Int32) <<< ((gw_i w 27 (l4.toNatClampNeg)) &&& 31))) ||| ((1 : Int32) <<< ((gw_i w 28 (l4.toNatClampNeg)) &&& 31)))), some (.int l3), some (.int l4)]) dX3_holesAskedBy_82 rfl (Nat.le_of_ble_eq_true rfl) rfl ?_
        refine bw_iinc (i := 4) (x := l4) (v := (l4 + 1)) (L' := [some (.ref 18), some (.int l1), some (.int ((l2 ||| ((1 : Int32) <<< ((gw_i w 27 (l4.toNatClampNeg)) &&& 31))) ||| ((1 : Int32) <<< ((gw_i w 28 (l4.toNatClampNeg)) &&& 31)))), some (.int l3), some (.int (l4 + 1))]) dX3_holesAskedBy_83 rfl rfl (Nat.le_of_ble_eq_true rfl) rfl ?_
        refine bw_goto (tgt := 10) dX3_holesAskedBy_86 (by decide) ?_
        exact h
      · replace h := h.2 (c)
        refine bw_aload_n (i := 0) dX3_holesAskedBy_59 rfl rfl ?_
        refine bw_getr (r := 26) fg_BentWords_Lexicon_34 rfl rfl dX3_holesAskedBy_60 ?_
        refine bw_iload dX3_holesAskedBy_63 rfl ?_
        obtain ⟨hi10, h⟩ := h
        refine bw_caload rfl hi10 dX3_holesAskedBy_65 ?_
        refine bw_bipush (v := 33) dX3_holesAskedBy_66 (by decide) ?_
        refine bw_icmp_ne (tgt := 83) dX3_holesAskedBy_68 (by decide) (fun c => ?_) (fun c => ?_)
        · replace h := h.1 (c)
          refine bw_iinc (i := 4) (x := l4) (v := (l4 + 1)) (L' := [some (.ref 18), some (.int l1), some (.int (l2 ||| ((1 : Int32) <<< ((gw_i w 27 (l4.toNatClampNeg)) &&& 31)))), some (.int l3), some (.int (l4 + 1))]) dX3_holesAskedBy_83 rfl rfl (Nat.le_of_ble_eq_true rfl) rfl ?_
          refine bw_goto (tgt := 10) dX3_holesAskedBy_86 (by decide) ?_
          exact h
        · replace h := h.2 (c)
          refine bw_iload_n (i := 2) dX3_holesAskedBy_71 rfl rfl ?_
          refine bw_iconst (v := 1) dX3_holesAskedBy_72 (by decide) ?_
          refine bw_aload_n (i := 0) dX3_holesAskedBy_73 rfl rfl ?_
          refine bw_getr (r := 28) fg_BentWords_Lexicon_41 rfl rfl dX3_holesAskedBy_74 ?_
          refine bw_iload dX3_holesAskedBy_77 rfl ?_
          obtain ⟨hi11, h⟩ := h
          refine bw_iaload rfl hi11 dX3_holesAskedBy_79 ?_
          refine bw_ishl dX3_holesAskedBy_80 ?_
          refine bw_ior dX3_holesAskedBy_81 ?_
          refine bw_istore_n (i := 2) (L' := [some (.ref 18), some (.int l1), some (.int ((l2 ||| ((1 : Int32) <<< ((gw_i w 27 (l4.toNatClampNeg)) &&& 31))) ||| ((1 : Int32) <<< ((gw_i w 28 (l4.toNatClampNeg)) &&& 31)))), some (.int l3), some (.int l4)]) dX3_holesAskedBy_82 rfl (Nat.le_of_ble_eq_true rfl) rfl ?_
          refine bw_iinc (i := 4) (x := l4) (v := (l4 + 1)) (L' := [some (.ref 18), some (.int l1), some (.int ((l2 ||| ((1 : Int32) <<< ((gw_i w 27 (l4.toNatClampNeg)) &&& 31))) ||| ((1 : Int32) <<< ((gw_i w 28 (l4.toNatClampNeg)) &&& 31)))), some (.int l3), some (.int (l4 + 1))]) dX3_holesAskedBy_83 rfl rfl (Nat.le_of_ble_eq_true rfl) rfl ?_
          refine bw_goto (tgt := 10) dX3_holesAskedBy_86 (by decide) ?_
          exact h
theorem wfX3_holesAskedBy {E : bw_E} {d : Nat} {w : bw_W} {Q : Int32 → bw_W → Prop} {a0 : Int32}  (h : bw_G E (d + 0) mX3_holesAskedBy 10 [some (.ref 18), some (.int a0), some (.int 0), some (.int (a0 * 8)), some (.int (a0 * 8))] [] w (bw_qi Q)) : bw_ri E (d + 0) mX3_holesAskedBy [.ref 18, .int a0] w Q := by
  refine bw_enter rfl (Nat.le_of_ble_eq_true rfl) ?_
  refine bw_iconst (v := 0) dX3_holesAskedBy_0 (by decide) ?_
  refine bw_istore_n (i := 2) (L' := [some (.ref 18), some (.int a0), some (.int 0), none, none]) dX3_holesAskedBy_1 rfl (Nat.le_of_ble_eq_true rfl) rfl ?_
  refine bw_iload_n (i := 1) dX3_holesAskedBy_2 rfl rfl ?_
  refine bw_bipush (v := 8) dX3_holesAskedBy_3 (by decide) ?_
  refine bw_imul dX3_holesAskedBy_5 ?_
  refine bw_istore_n (i := 3) (L' := [some (.ref 18), some (.int a0), some (.int 0), some (.int (a0 * 8)), none]) dX3_holesAskedBy_6 rfl (Nat.le_of_ble_eq_true rfl) rfl ?_
  refine bw_iload_n (i := 3) dX3_holesAskedBy_7 rfl rfl ?_
  refine bw_istore (i := 4) (L' := [some (.ref 18), some (.int a0), some (.int 0), some (.int (a0 * 8)), some (.int (a0 * 8))]) dX3_holesAskedBy_8 (Nat.le_of_ble_eq_true rfl) rfl ?_
  exact h
theorem wfX3_asksForm {E : bw_E} {d : Nat} {w : bw_W} {Q : Bool → bw_W → Prop} {a0 : Int32}  (h : (vp_in a0 32) ∧
(((gw_i w 26 (a0.toNatClampNeg)) = 35 → Q true w) ∧ (¬ ((gw_i w 26 (a0.toNatClampNeg)) = 35) → (vp_in a0 32) ∧
((¬ (gw_i w 26 (a0.toNatClampNeg)) = 64 → Q false w) ∧ ((gw_i w 26 (a0.toNatClampNeg)) = 64 → Q true w))))) : bw_rb E (d + 0) mX3_asksForm [.ref 18, .int a0] w Q := by
  refine bw_enter rfl (Nat.le_of_ble_eq_true rfl) ?_
  refine bw_aload_n (i := 0) dX3_asksForm_0 rfl rfl ?_
  refine bw_getr (r := 26) fg_BentWords_Lexicon_34 rfl rfl dX3_asksForm_1 ?_
  refine bw_iload_n (i := 1) dX3_asksForm_4 rfl rfl ?_
  obtain ⟨hi1, h⟩ := h
  refine bw_caload rfl hi1 dX3_asksForm_5 ?_
  refine bw_bipush (v := 35) dX3_asksForm_6 (by decide) ?_
  refine bw_icmp_eq (tgt := 22) dX3_asksForm_8 (by decide) (fun c => ?_) (fun c => ?_)
  · replace h := h.1 (c)
    refine bw_iconst (v := 1) dX3_asksForm_22 (by decide) ?_
    refine bw_goto (tgt := 27) dX3_asksForm_23 (by decide) ?_
    exact bw_ireturn dX3_asksForm_27 rfl (bw_nb true) ⟨true, rfl, h⟩
  · replace h := h.2 (c)
    refine bw_aload_n (i := 0) dX3_asksForm_11 rfl rfl ?_
    refine bw_getr (r := 26) fg_BentWords_Lexicon_34 rfl rfl dX3_asksForm_12 ?_
    refine bw_iload_n (i := 1) dX3_asksForm_15 rfl rfl ?_
    obtain ⟨hi2, h⟩ := h
    refine bw_caload rfl hi2 dX3_asksForm_16 ?_
    refine bw_bipush (v := 64) dX3_asksForm_17 (by decide) ?_
    refine bw_icmp_ne (tgt := 26) dX3_asksForm_19 (by decide) (fun c => ?_) (fun c => ?_)
    · replace h := h.1 (c)
      refine bw_iconst (v := 0) dX3_asksForm_26 (by decide) ?_
      exact bw_ireturn dX3_asksForm_27 rfl (bw_nb false) ⟨false, rfl, h⟩
    · replace h := h.2 (c)
      refine bw_iconst (v := 1) dX3_asksForm_22 (by decide) ?_
      refine bw_goto (tgt := 27) dX3_asksForm_23 (by decide) ?_
      exact bw_ireturn dX3_asksForm_27 rfl (bw_nb true) ⟨true, rfl, h⟩
theorem fs_X3_asksForm {E : bw_E} {d : Nat} {w : bw_W} {Q : Bool → bw_W → Prop} {a0 : Int32}  (hc0 : (vp_in a0 32)) (hc1 : (¬ ((gw_i w 26 (a0.toNatClampNeg)) = 35)) → (vp_in a0 32)) (h : Q (decide (((gw_i w 26 (a0.toNatClampNeg)) = 35) ∨ ((gw_i w 26 (a0.toNatClampNeg)) = 64))) w) : bw_rb E (d + 0) mX3_asksForm [.ref 18, .int a0] w Q := by
  refine wfX3_asksForm  ?_
  refine ⟨hc0 , ?_⟩
  refine ⟨fun c0 => ?_, fun c0 => ?_⟩
  · (try simp only [c0, if_true, if_false, ite_true, ite_false, decide_true, decide_false, true_and, and_true, false_and, and_false, not_true_eq_false, not_false_eq_true, true_or, or_true, false_or, or_false, or_self, and_self, Classical.not_not] at h) <;> exact h
  · refine ⟨hc1 c0, ?_⟩
    refine ⟨fun c1 => ?_, fun c1 => ?_⟩
    · (try simp only [c0, c1, if_true, if_false, ite_true, ite_false, decide_true, decide_false, true_and, and_true, false_and, and_false, not_true_eq_false, not_false_eq_true, true_or, or_true, false_or, or_false, or_self, and_self, Classical.not_not] at h) <;> exact h
    · (try simp only [c0, c1, if_true, if_false, ite_true, ite_false, decide_true, decide_false, true_and, and_true, false_and, and_false, not_true_eq_false, not_false_eq_true, true_or, or_true, false_or, or_false, or_self, and_self, Classical.not_not] at h) <;> exact h
theorem wfX4_isItemSign {E : bw_E} {d : Nat} {w : bw_W} {Q : Bool → bw_W → Prop} {a0 : Int32}  (h : ((a0 = 33 → Q true w) ∧ (a0 = 35 → Q true w) ∧ (a0 = 36 → Q true w) ∧ (a0 = 37 → Q true w) ∧ (a0 = 61 → Q true w) ∧ (a0 = 64 → Q true w) ∧ (¬ a0 = 33 → ¬ a0 = 35 → ¬ a0 = 36 → ¬ a0 = 37 → ¬ a0 = 61 → ¬ a0 = 64 → Q false w))) : bw_rb E (d + 0) mX4_isItemSign [.int a0] w Q := by
  refine bw_enter rfl (Nat.le_of_ble_eq_true rfl) ?_
  refine bw_iload_n (i := 0) dX4_isItemSign_0 rfl rfl ?_
  by_cases c0 : a0 = 33
  · refine bw_lookE (off := 59) (tgt := 60) (v := 33) dX4_isItemSign_1 c0 (by decide) (by decide) (by decide) ?_
    replace h := h.1 c0
    refine bw_iconst (v := 1) dX4_isItemSign_60 (by decide) ?_
    exact bw_ireturn dX4_isItemSign_61 rfl (bw_nb true) ⟨true, rfl, h⟩
  by_cases c1 : a0 = 35
  · refine bw_lookE (off := 59) (tgt := 60) (v := 35) dX4_isItemSign_1 c1 (by decide) (by decide) (by decide) ?_
    replace h := h.2.1 c1
    refine bw_iconst (v := 1) dX4_isItemSign_60 (by decide) ?_
    exact bw_ireturn dX4_isItemSign_61 rfl (bw_nb true) ⟨true, rfl, h⟩
  by_cases c2 : a0 = 36
  · refine bw_lookE (off := 59) (tgt := 60) (v := 36) dX4_isItemSign_1 c2 (by decide) (by decide) (by decide) ?_
    replace h := h.2.2.1 c2
    refine bw_iconst (v := 1) dX4_isItemSign_60 (by decide) ?_
    exact bw_ireturn dX4_isItemSign_61 rfl (bw_nb true) ⟨true, rfl, h⟩
  by_cases c3 : a0 = 37
  · refine bw_lookE (off := 59) (tgt := 60) (v := 37) dX4_isItemSign_1 c3 (by decide) (by decide) (by decide) ?_
    replace h := h.2.2.2.1 c3
    refine bw_iconst (v := 1) dX4_isItemSign_60 (by decide) ?_
    exact bw_ireturn dX4_isItemSign_61 rfl (bw_nb true) ⟨true, rfl, h⟩
  by_cases c4 : a0 = 61
  · refine bw_lookE (off := 59) (tgt := 60) (v := 61) dX4_isItemSign_1 c4 (by decide) (by decide) (by decide) ?_
    replace h := h.2.2.2.2.1 c4
    refine bw_iconst (v := 1) dX4_isItemSign_60 (by decide) ?_
    exact bw_ireturn dX4_isItemSign_61 rfl (bw_nb true) ⟨true, rfl, h⟩
  by_cases c5 : a0 = 64
  · refine bw_lookE (off := 59) (tgt := 60) (v := 64) dX4_isItemSign_1 c5 (by decide) (by decide) (by decide) ?_
    replace h := h.2.2.2.2.2.1 c5
    refine bw_iconst (v := 1) dX4_isItemSign_60 (by decide) ?_
    exact bw_ireturn dX4_isItemSign_61 rfl (bw_nb true) ⟨true, rfl, h⟩
  refine bw_lookD (tgt := 62) dX4_isItemSign_1 (by decide) ?_ (by decide) ?_
  · intro q hq
    simp only [List.mem_cons, List.mem_nil_iff, or_false] at hq
    rcases hq with rfl | rfl | rfl | rfl | rfl | rfl <;> first | exact bw_nei c0 (by decide) | exact bw_nei c1 (by decide) | exact bw_nei c2 (by decide) | exact bw_nei c3 (by decide) | exact bw_nei c4 (by decide) | exact bw_nei c5 (by decide)
  · replace h := h.2.2.2.2.2.2 c0 c1 c2 c3 c4 c5
    refine bw_iconst (v := 0) dX4_isItemSign_62 (by decide) ?_
    exact bw_ireturn dX4_isItemSign_63 rfl (bw_nb false) ⟨false, rfl, h⟩
theorem wfX7_formCell {E : bw_E} {d : Nat} {w : bw_W} {Q : Int32 → bw_W → Prop} {a0 : Int32} {a1 : Int32} {a2 : Int32}  (h : Q (((a0 * 8) + (a1 * 2)) + a2) w) : bw_ri E (d + 0) mX7_formCell [.int a0, .int a1, .int a2] w Q := by
  refine bw_enter rfl (Nat.le_of_ble_eq_true rfl) ?_
  refine bw_iload_n (i := 0) dX7_formCell_0 rfl rfl ?_
  refine bw_bipush (v := 8) dX7_formCell_1 (by decide) ?_
  refine bw_imul dX7_formCell_3 ?_
  refine bw_iload_n (i := 1) dX7_formCell_4 rfl rfl ?_
  refine bw_iconst (v := 2) dX7_formCell_5 (by decide) ?_
  refine bw_imul dX7_formCell_6 ?_
  refine bw_iadd dX7_formCell_7 ?_
  refine bw_iload_n (i := 2) dX7_formCell_8 rfl rfl ?_
  refine bw_iadd dX7_formCell_9 ?_
  exact bw_ireturn dX7_formCell_10 rfl rfl ⟨_, rfl, h⟩
theorem fs_X7_formCell {E : bw_E} {d : Nat} {w : bw_W} {Q : Int32 → bw_W → Prop} {a0 : Int32} {a1 : Int32} {a2 : Int32}   (h : Q (((a0 * 8) + (a1 * 2)) + a2) w) : bw_ri E (d + 0) mX7_formCell [.int a0, .int a1, .int a2] w Q := by
  refine wfX7_formCell  ?_
  exact h
theorem wfX7_filling {E : bw_E} {d : Nat} {w : bw_W} {Q : Int64 → bw_W → Prop} {a0 : Int32} {a1 : Int32}  (h : Q (((1 + (a0 * 100)) + a1).toInt64) w) : bw_rl E (d + 0) mX7_filling [.int a0, .int a1] w Q := by
  refine bw_enter rfl (Nat.le_of_ble_eq_true rfl) ?_
  refine bw_iconst (v := 1) dX7_filling_0 (by decide) ?_
  refine bw_iload_n (i := 0) dX7_filling_1 rfl rfl ?_
  refine bw_bipush (v := 100) dX7_filling_2 (by decide) ?_
  refine bw_imul dX7_filling_4 ?_
  refine bw_iadd dX7_filling_5 ?_
  refine bw_iload_n (i := 1) dX7_filling_6 rfl rfl ?_
  refine bw_iadd dX7_filling_7 ?_
  refine bw_i2l dX7_filling_8 ?_
  exact bw_lreturn dX7_filling_9 rfl ⟨_, rfl, h⟩
theorem fs_X7_filling {E : bw_E} {d : Nat} {w : bw_W} {Q : Int64 → bw_W → Prop} {a0 : Int32} {a1 : Int32}   (h : Q (((1 + (a0 * 100)) + a1).toInt64) w) : bw_rl E (d + 0) mX7_filling [.int a0, .int a1] w Q := by
  refine wfX7_filling  ?_
  exact h
theorem wfX7_isStrict {E : bw_E} {d : Nat} {w : bw_W} {Q : Bool → bw_W → Prop}   (h : (((gw_l w 32 51) = 0 → Q false w) ∧ (¬ (gw_l w 32 51) = 0 → Q true w))) : bw_rb E (d + 0) mX7_isStrict [.ref 31] w Q := by
  refine bw_enter rfl (Nat.le_of_ble_eq_true rfl) ?_
  refine bw_aload_n (i := 0) dX7_isStrict_0 rfl rfl ?_
  refine bw_getr (r := 32) fg_BentWords_State_11 rfl rfl dX7_isStrict_1 ?_
  refine bw_bipush (v := 51) dX7_isStrict_4 (by decide) ?_
  refine bw_laload rfl (by unfold vp_in; decide) dX7_isStrict_6 ?_
  rw [show gw_l w 32 (Int32.toNatClampNeg 51) = (gw_l w 32 51) from rfl]
  refine bw_lconst (v := 0) dX7_isStrict_7 rfl ?_
  refine bw_lcmp_eq (tgt := 16) dX7_isStrict_8 dX7_isStrict_9 (by decide) (fun c => ?_) (fun c => ?_)
  · replace h := h.1 (c)
    refine bw_iconst (v := 0) dX7_isStrict_16 (by decide) ?_
    exact bw_ireturn dX7_isStrict_17 rfl (bw_nb false) ⟨false, rfl, h⟩
  · replace h := h.2 (c)
    refine bw_iconst (v := 1) dX7_isStrict_12 (by decide) ?_
    refine bw_goto (tgt := 17) dX7_isStrict_13 (by decide) ?_
    exact bw_ireturn dX7_isStrict_17 rfl (bw_nb true) ⟨true, rfl, h⟩
theorem fs_X7_isStrict {E : bw_E} {d : Nat} {w : bw_W} {Q : Bool → bw_W → Prop}    (h : Q (decide ((¬ (gw_l w 32 51) = 0))) w) : bw_rb E (d + 0) mX7_isStrict [.ref 31] w Q := by
  refine wfX7_isStrict  ?_
  refine ⟨fun c0 => ?_, fun c0 => ?_⟩
  · (try simp only [c0, if_true, if_false, ite_true, ite_false, decide_true, decide_false, true_and, and_true, false_and, and_false, not_true_eq_false, not_false_eq_true, true_or, or_true, false_or, or_false, or_self, and_self, Classical.not_not] at h) <;> exact h
  · (try simp only [c0, if_true, if_false, ite_true, ite_false, decide_true, decide_false, true_and, and_true, false_and, and_false, not_true_eq_false, not_false_eq_true, true_or, or_true, false_or, or_false, or_self, and_self, Classical.not_not] at h) <;> exact h
theorem wfX7_isOpen {E : bw_E} {d : Nat} {w : bw_W} {Q : Bool → bw_W → Prop} {a0 : Int32}  (h : (vp_in (48 + a0) 52) ∧
((¬ (gw_l w 32 ((48 + a0).toNatClampNeg)) = 0 → Q false w) ∧ ((gw_l w 32 ((48 + a0).toNatClampNeg)) = 0 → Q true w))) : bw_rb E (d + 0) mX7_isOpen [.ref 31, .int a0] w Q := by
  refine bw_enter rfl (Nat.le_of_ble_eq_true rfl) ?_
  refine bw_aload_n (i := 0) dX7_isOpen_0 rfl rfl ?_
  refine bw_getr (r := 32) fg_BentWords_State_11 rfl rfl dX7_isOpen_1 ?_
  refine bw_bipush (v := 48) dX7_isOpen_4 (by decide) ?_
  refine bw_iload_n (i := 1) dX7_isOpen_6 rfl rfl ?_
  refine bw_iadd dX7_isOpen_7 ?_
  obtain ⟨hi1, h⟩ := h
  refine bw_laload rfl hi1 dX7_isOpen_8 ?_
  refine bw_lconst (v := 0) dX7_isOpen_9 rfl ?_
  refine bw_lcmp_ne (tgt := 18) dX7_isOpen_10 dX7_isOpen_11 (by decide) (fun c => ?_) (fun c => ?_)
  · replace h := h.1 (c)
    refine bw_iconst (v := 0) dX7_isOpen_18 (by decide) ?_
    exact bw_ireturn dX7_isOpen_19 rfl (bw_nb false) ⟨false, rfl, h⟩
  · replace h := h.2 (c)
    refine bw_iconst (v := 1) dX7_isOpen_14 (by decide) ?_
    refine bw_goto (tgt := 19) dX7_isOpen_15 (by decide) ?_
    exact bw_ireturn dX7_isOpen_19 rfl (bw_nb true) ⟨true, rfl, h⟩
theorem fs_X7_isOpen {E : bw_E} {d : Nat} {w : bw_W} {Q : Bool → bw_W → Prop} {a0 : Int32}  (hc0 : (vp_in (48 + a0) 52)) (h : Q (decide (((gw_l w 32 ((48 + a0).toNatClampNeg)) = 0))) w) : bw_rb E (d + 0) mX7_isOpen [.ref 31, .int a0] w Q := by
  refine wfX7_isOpen  ?_
  refine ⟨hc0 , ?_⟩
  refine ⟨fun c0 => ?_, fun c0 => ?_⟩
  · (try simp only [c0, if_true, if_false, ite_true, ite_false, decide_true, decide_false, true_and, and_true, false_and, and_false, not_true_eq_false, not_false_eq_true, true_or, or_true, false_or, or_false, or_self, and_self, Classical.not_not] at h) <;> exact h
  · (try simp only [c0, if_true, if_false, ite_true, ite_false, decide_true, decide_false, true_and, and_true, false_and, and_false, not_true_eq_false, not_false_eq_true, true_or, or_true, false_or, or_false, or_self, and_self, Classical.not_not] at h) <;> exact h
theorem wfX7_nounIn {E : bw_E} {d : Nat} {w : bw_W} {Q : Int32 → bw_W → Prop} {a0 : Int32}  (h : (vp_in (48 + a0) 52) ∧
Q ((((gw_l w 32 ((48 + a0).toNatClampNeg)) - 1).toInt32) / 100) w) : bw_ri E (d + 0) mX7_nounIn [.ref 31, .int a0] w Q := by
  refine bw_enter rfl (Nat.le_of_ble_eq_true rfl) ?_
  refine bw_aload_n (i := 0) dX7_nounIn_0 rfl rfl ?_
  refine bw_getr (r := 32) fg_BentWords_State_11 rfl rfl dX7_nounIn_1 ?_
  refine bw_bipush (v := 48) dX7_nounIn_4 (by decide) ?_
  refine bw_iload_n (i := 1) dX7_nounIn_6 rfl rfl ?_
  refine bw_iadd dX7_nounIn_7 ?_
  obtain ⟨hi1, h⟩ := h
  refine bw_laload rfl hi1 dX7_nounIn_8 ?_
  refine bw_lconst (v := 1) dX7_nounIn_9 rfl ?_
  refine bw_lsub dX7_nounIn_10 ?_
  refine bw_l2i dX7_nounIn_11 ?_
  refine bw_bipush (v := 100) dX7_nounIn_12 (by decide) ?_
  refine bw_idiv dX7_nounIn_14 (by decide) ?_
  exact bw_ireturn dX7_nounIn_15 rfl rfl ⟨_, rfl, h⟩
def vX7_nounIn (w : bw_W) (a0 : Int32) : Int32 := ((((gw_l w 32 ((48 + a0).toNatClampNeg)) - 1).toInt32) / 100)
theorem fs_X7_nounIn {E : bw_E} {d : Nat} {w : bw_W} {Q : Int32 → bw_W → Prop} {a0 : Int32}  (hc0 : (vp_in (48 + a0) 52)) (h : Q (vX7_nounIn w a0) w) : bw_ri E (d + 0) mX7_nounIn [.ref 31, .int a0] w Q := by
  refine wfX7_nounIn  ?_
  refine ⟨hc0 , ?_⟩
  exact h
theorem wfX7_countIn {E : bw_E} {d : Nat} {w : bw_W} {Q : Int32 → bw_W → Prop} {a0 : Int32}  (h : (vp_in (48 + a0) 52) ∧
Q ((((gw_l w 32 ((48 + a0).toNatClampNeg)) - 1).toInt32) - (((gw_l w 32 ((48 + a0).toNatClampNeg)) - 1).toInt32) / 100 * 100) w) : bw_ri E (d + 0) mX7_countIn [.ref 31, .int a0] w Q := by
  refine bw_enter rfl (Nat.le_of_ble_eq_true rfl) ?_
  refine bw_aload_n (i := 0) dX7_countIn_0 rfl rfl ?_
  refine bw_getr (r := 32) fg_BentWords_State_11 rfl rfl dX7_countIn_1 ?_
  refine bw_bipush (v := 48) dX7_countIn_4 (by decide) ?_
  refine bw_iload_n (i := 1) dX7_countIn_6 rfl rfl ?_
  refine bw_iadd dX7_countIn_7 ?_
  obtain ⟨hi1, h⟩ := h
  refine bw_laload rfl hi1 dX7_countIn_8 ?_
  refine bw_lconst (v := 1) dX7_countIn_9 rfl ?_
  refine bw_lsub dX7_countIn_10 ?_
  refine bw_l2i dX7_countIn_11 ?_
  refine bw_bipush (v := 100) dX7_countIn_12 (by decide) ?_
  refine bw_irem dX7_countIn_14 (by decide) ?_
  exact bw_ireturn dX7_countIn_15 rfl rfl ⟨_, rfl, h⟩
def vX7_countIn (w : bw_W) (a0 : Int32) : Int32 := ((((gw_l w 32 ((48 + a0).toNatClampNeg)) - 1).toInt32) - (((gw_l w 32 ((48 + a0).toNatClampNeg)) - 1).toInt32) / 100 * 100)
theorem fs_X7_countIn {E : bw_E} {d : Nat} {w : bw_W} {Q : Int32 → bw_W → Prop} {a0 : Int32}  (hc0 : (vp_in (48 + a0) 52)) (h : Q (vX7_countIn w a0) w) : bw_ri E (d + 0) mX7_countIn [.ref 31, .int a0] w Q := by
  refine wfX7_countIn  ?_
  refine ⟨hc0 , ?_⟩
  exact h
theorem wfX7_numberIn {E : bw_E} {d : Nat} {w : bw_W} {Q : Int32 → bw_W → Prop} {a0 : Int32}  (h : (vp_in (48 + a0) 52) ∧
((¬ (((gw_l w 32 ((48 + a0).toNatClampNeg)) - 1) - ((gw_l w 32 ((48 + a0).toNatClampNeg)) - 1) / 100 * 100) = 1 → Q 1 w) ∧ ((((gw_l w 32 ((48 + a0).toNatClampNeg)) - 1) - ((gw_l w 32 ((48 + a0).toNatClampNeg)) - 1) / 100 * 100) = 1 → Q 0 w))) : bw_ri E (d + 0) mX7_numberIn [.ref 31, .int a0] w Q := by
  refine bw_enter rfl (Nat.le_of_ble_eq_true rfl) ?_
  refine bw_aload_n (i := 0) dX7_numberIn_0 rfl rfl ?_
  refine bw_getr (r := 32) fg_BentWords_State_11 rfl rfl dX7_numberIn_1 ?_
  refine bw_bipush (v := 48) dX7_numberIn_4 (by decide) ?_
  refine bw_iload_n (i := 1) dX7_numberIn_6 rfl rfl ?_
  refine bw_iadd dX7_numberIn_7 ?_
  obtain ⟨hi1, h⟩ := h
  refine bw_laload rfl hi1 dX7_numberIn_8 ?_
  refine bw_lconst (v := 1) dX7_numberIn_9 rfl ?_
  refine bw_lsub dX7_numberIn_10 ?_
  refine bw_ldc2 kl_BentWords_State_26 dX7_numberIn_11 ?_
  refine bw_lrem dX7_numberIn_14 (by decide) ?_
  refine bw_lconst (v := 1) dX7_numberIn_15 rfl ?_
  refine bw_lcmp_ne (tgt := 24) dX7_numberIn_16 dX7_numberIn_17 (by decide) (fun c => ?_) (fun c => ?_)
  · replace h := h.1 (c)
    refine bw_iconst (v := 1) dX7_numberIn_24 (by decide) ?_
    exact bw_ireturn dX7_numberIn_25 rfl rfl ⟨_, rfl, h⟩
  · replace h := h.2 (c)
    refine bw_iconst (v := 0) dX7_numberIn_20 (by decide) ?_
    refine bw_goto (tgt := 25) dX7_numberIn_21 (by decide) ?_
    exact bw_ireturn dX7_numberIn_25 rfl rfl ⟨_, rfl, h⟩
def vX7_numberIn (w : bw_W) (a0 : Int32) : Int32 := (if ¬ (((gw_l w 32 ((48 + a0).toNatClampNeg)) - 1) - ((gw_l w 32 ((48 + a0).toNatClampNeg)) - 1) / 100 * 100) = 1 then 1 else 0)
theorem fs_X7_numberIn {E : bw_E} {d : Nat} {w : bw_W} {Q : Int32 → bw_W → Prop} {a0 : Int32}  (hc0 : (vp_in (48 + a0) 52)) (h : Q (vX7_numberIn w a0) w) : bw_ri E (d + 0) mX7_numberIn [.ref 31, .int a0] w Q := by
  refine wfX7_numberIn  ?_
  refine ⟨hc0 , ?_⟩
  refine ⟨fun c0 => ?_, fun c0 => ?_⟩
  · (try simp only [vX7_numberIn, c0, if_true, if_false, ite_true, ite_false, decide_true, decide_false, true_and, and_true, false_and, and_false, not_true_eq_false, not_false_eq_true, true_or, or_true, false_or, or_false, or_self, and_self, Classical.not_not] at h) <;> exact h
  · (try simp only [vX7_numberIn, c0, if_true, if_false, ite_true, ite_false, decide_true, decide_false, true_and, and_true, false_and, and_false, not_true_eq_false, not_false_eq_true, true_or, or_true, false_or, or_false, or_self, and_self, Classical.not_not] at h) <;> exact h
theorem wfX7_defaultOf {E : bw_E} {d : Nat} {w : bw_W} {Q : Int32 → bw_W → Prop} {a0 : Int32} {a1 : Int32} {a2 : Int32}  (h : (vp_in (((a0 * 8) + (a1 * 2)) + a2) 52) ∧
(((gw_l w 32 ((((a0 * 8) + (a1 * 2)) + a2).toNatClampNeg)) = 0 → (vp_in ((a0 * 8) + a2) 52) ∧
(((gw_l w 32 (((a0 * 8) + a2).toNatClampNeg)) = 0 → (vp_in ((a0 * 8) + (a1 * 2)) 52) ∧
(((gw_l w 32 (((a0 * 8) + (a1 * 2)).toNatClampNeg)) = 0 → (vp_in (a0 * 8) 52) ∧
(((gw_l w 32 ((a0 * 8).toNatClampNeg)) = 0 → Q 4 w) ∧ (¬ (gw_l w 32 ((a0 * 8).toNatClampNeg)) = 0 → Q 3 w))) ∧ (¬ (gw_l w 32 (((a0 * 8) + (a1 * 2)).toNatClampNeg)) = 0 → Q 2 w))) ∧ (¬ (gw_l w 32 (((a0 * 8) + a2).toNatClampNeg)) = 0 → Q 1 w))) ∧ (¬ (gw_l w 32 ((((a0 * 8) + (a1 * 2)) + a2).toNatClampNeg)) = 0 → Q 0 w))) : bw_ri E (d + 0) mX7_defaultOf [.ref 31, .int a0, .int a1, .int a2] w Q := by
  refine bw_enter rfl (Nat.le_of_ble_eq_true rfl) ?_
  refine bw_iload_n (i := 1) dX7_defaultOf_0 rfl rfl ?_
  refine bw_bipush (v := 8) dX7_defaultOf_1 (by decide) ?_
  refine bw_imul dX7_defaultOf_3 ?_
  refine bw_istore (i := 4) (L' := [some (.ref 31), some (.int a0), some (.int a1), some (.int a2), some (.int (a0 * 8)), none]) dX7_defaultOf_4 (Nat.le_of_ble_eq_true rfl) rfl ?_
  refine bw_iload dX7_defaultOf_6 rfl ?_
  refine bw_iload_n (i := 2) dX7_defaultOf_8 rfl rfl ?_
  refine bw_iconst (v := 2) dX7_defaultOf_9 (by decide) ?_
  refine bw_imul dX7_defaultOf_10 ?_
  refine bw_iadd dX7_defaultOf_11 ?_
  refine bw_istore (i := 5) (L' := [some (.ref 31), some (.int a0), some (.int a1), some (.int a2), some (.int (a0 * 8)), some (.int ((a0 * 8) + (a1 * 2)))]) dX7_defaultOf_12 (Nat.le_of_ble_eq_true rfl) rfl ?_
  refine bw_aload_n (i := 0) dX7_defaultOf_14 rfl rfl ?_
  refine bw_getr (r := 32) fg_BentWords_State_11 rfl rfl dX7_defaultOf_15 ?_
  refine bw_iload dX7_defaultOf_18 rfl ?_
  refine bw_iload_n (i := 3) dX7_defaultOf_20 rfl rfl ?_
  refine bw_iadd dX7_defaultOf_21 ?_
  obtain ⟨hi1, h⟩ := h
  refine bw_laload rfl hi1 dX7_defaultOf_22 ?_
  refine bw_lconst (v := 0) dX7_defaultOf_23 rfl ?_
  refine bw_lcmp_eq (tgt := 30) dX7_defaultOf_24 dX7_defaultOf_25 (by decide) (fun c => ?_) (fun c => ?_)
  · replace h := h.1 (c)
    refine bw_aload_n (i := 0) dX7_defaultOf_30 rfl rfl ?_
    refine bw_getr (r := 32) fg_BentWords_State_11 rfl rfl dX7_defaultOf_31 ?_
    refine bw_iload dX7_defaultOf_34 rfl ?_
    refine bw_iload_n (i := 3) dX7_defaultOf_36 rfl rfl ?_
    refine bw_iadd dX7_defaultOf_37 ?_
    obtain ⟨hi2, h⟩ := h
    refine bw_laload rfl hi2 dX7_defaultOf_38 ?_
    refine bw_lconst (v := 0) dX7_defaultOf_39 rfl ?_
    refine bw_lcmp_eq (tgt := 46) dX7_defaultOf_40 dX7_defaultOf_41 (by decide) (fun c => ?_) (fun c => ?_)
    · replace h := h.1 (c)
      refine bw_aload_n (i := 0) dX7_defaultOf_46 rfl rfl ?_
      refine bw_getr (r := 32) fg_BentWords_State_11 rfl rfl dX7_defaultOf_47 ?_
      refine bw_iload dX7_defaultOf_50 rfl ?_
      obtain ⟨hi3, h⟩ := h
      refine bw_laload rfl hi3 dX7_defaultOf_52 ?_
      refine bw_lconst (v := 0) dX7_defaultOf_53 rfl ?_
      refine bw_lcmp_eq (tgt := 60) dX7_defaultOf_54 dX7_defaultOf_55 (by decide) (fun c => ?_) (fun c => ?_)
      · replace h := h.1 (c)
        refine bw_aload_n (i := 0) dX7_defaultOf_60 rfl rfl ?_
        refine bw_getr (r := 32) fg_BentWords_State_11 rfl rfl dX7_defaultOf_61 ?_
        refine bw_iload dX7_defaultOf_64 rfl ?_
        obtain ⟨hi4, h⟩ := h
        refine bw_laload rfl hi4 dX7_defaultOf_66 ?_
        refine bw_lconst (v := 0) dX7_defaultOf_67 rfl ?_
        refine bw_lcmp_eq (tgt := 76) dX7_defaultOf_68 dX7_defaultOf_69 (by decide) (fun c => ?_) (fun c => ?_)
        · replace h := h.1 (c)
          refine bw_iconst (v := 4) dX7_defaultOf_76 (by decide) ?_
          exact bw_ireturn dX7_defaultOf_77 rfl rfl ⟨_, rfl, h⟩
        · replace h := h.2 (c)
          refine bw_iconst (v := 3) dX7_defaultOf_72 (by decide) ?_
          refine bw_goto (tgt := 77) dX7_defaultOf_73 (by decide) ?_
          exact bw_ireturn dX7_defaultOf_77 rfl rfl ⟨_, rfl, h⟩
      · replace h := h.2 (c)
        refine bw_iconst (v := 2) dX7_defaultOf_58 (by decide) ?_
        exact bw_ireturn dX7_defaultOf_59 rfl rfl ⟨_, rfl, h⟩
    · replace h := h.2 (c)
      refine bw_iconst (v := 1) dX7_defaultOf_44 (by decide) ?_
      exact bw_ireturn dX7_defaultOf_45 rfl rfl ⟨_, rfl, h⟩
  · replace h := h.2 (c)
    refine bw_iconst (v := 0) dX7_defaultOf_28 (by decide) ?_
    exact bw_ireturn dX7_defaultOf_29 rfl rfl ⟨_, rfl, h⟩
theorem wfX8_set {E : bw_E} {d : Nat} {w : bw_W} {Q : bw_W → Prop} {sp : Nat} {a0 : Int32} {a1 : Int32} {a2 : Int32} {a3 : Int32} {a4 : Int64} (h_sp : bw_sh sp = (0, 8, 5)) (h : Q (sw_l (sw_i (sw_i (sw_i (sw_i w sp 0 a0) sp 1 a1) sp 2 a2) sp 3 a3) sp 4 a4)) : bw_rv E (d + 0) mX8_set [.ref sp, .int a0, .int a1, .int a2, .int a3, .long a4] w Q := by
  refine bw_enter rfl (Nat.le_of_ble_eq_true rfl) ?_
  refine bw_aload_n (i := 0) dX8_set_0 rfl rfl ?_
  refine bw_iload_n (i := 1) dX8_set_1 rfl rfl ?_
  refine bw_puti fp_BentWords_Step_9 h_sp rfl rfl dX8_set_2 ?_
  refine bw_aload_n (i := 0) dX8_set_5 rfl rfl ?_
  refine bw_iload_n (i := 2) dX8_set_6 rfl rfl ?_
  refine bw_puti fp_BentWords_Step_15 h_sp rfl rfl dX8_set_7 ?_
  refine bw_aload_n (i := 0) dX8_set_10 rfl rfl ?_
  refine bw_iload_n (i := 3) dX8_set_11 rfl rfl ?_
  refine bw_puti fp_BentWords_Step_18 h_sp rfl rfl dX8_set_12 ?_
  refine bw_aload_n (i := 0) dX8_set_15 rfl rfl ?_
  refine bw_iload dX8_set_16 rfl ?_
  refine bw_puti fp_BentWords_Step_21 h_sp rfl rfl dX8_set_18 ?_
  refine bw_aload_n (i := 0) dX8_set_21 rfl rfl ?_
  refine bw_lload dX8_set_22 rfl ?_
  refine bw_putl fp_BentWords_Step_24 h_sp dX8_set_24 ?_
  exact bw_return dX8_set_27 rfl ⟨rfl, h⟩
theorem fs_X8_set {E : bw_E} {d : Nat} {w : bw_W} {Q : bw_W → Prop} {sp : Nat} {a0 : Int32} {a1 : Int32} {a2 : Int32} {a3 : Int32} {a4 : Int64} (h_sp : bw_sh sp = (0, 8, 5))  (h : Q (sw_l (sw_i (sw_i (sw_i (sw_i w sp 0 a0) sp 1 a1) sp 2 a2) sp 3 a3) sp 4 a4)) : bw_rv E (d + 0) mX8_set [.ref sp, .int a0, .int a1, .int a2, .int a3, .long a4] w Q := by
  refine wfX8_set h_sp ?_
  exact h
theorem wfX8_hasThreeNumbers {E : bw_E} {d : Nat} {w : bw_W} {Q : Bool → bw_W → Prop} {sp : Nat} (h_sp : bw_sh sp = (0, 8, 5)) (h : (((gw_i w sp 0) = 0 → Q true w) ∧ (¬ ((gw_i w sp 0) = 0) → (((gw_i w sp 0) = 3 → Q true w) ∧ (¬ ((gw_i w sp 0) = 3) → ((¬ (gw_i w sp 0) = 4 → Q false w) ∧ ((gw_i w sp 0) = 4 → Q true w))))))) : bw_rb E (d + 0) mX8_hasThreeNumbers [.ref sp] w Q := by
  refine bw_enter rfl (Nat.le_of_ble_eq_true rfl) ?_
  refine bw_aload_n (i := 0) dX8_hasThreeNumbers_0 rfl rfl ?_
  refine bw_geti fg_BentWords_Step_9 h_sp dX8_hasThreeNumbers_1 ?_
  refine bw_if_eq (tgt := 23) dX8_hasThreeNumbers_4 (by decide) (fun c => ?_) (fun c => ?_)
  · replace h := h.1 (c)
    refine bw_iconst (v := 1) dX8_hasThreeNumbers_23 (by decide) ?_
    refine bw_goto (tgt := 28) dX8_hasThreeNumbers_24 (by decide) ?_
    exact bw_ireturn dX8_hasThreeNumbers_28 rfl (bw_nb true) ⟨true, rfl, h⟩
  · replace h := h.2 (c)
    refine bw_aload_n (i := 0) dX8_hasThreeNumbers_7 rfl rfl ?_
    refine bw_geti fg_BentWords_Step_9 h_sp dX8_hasThreeNumbers_8 ?_
    refine bw_iconst (v := 3) dX8_hasThreeNumbers_11 (by decide) ?_
    refine bw_icmp_eq (tgt := 23) dX8_hasThreeNumbers_12 (by decide) (fun c => ?_) (fun c => ?_)
    · replace h := h.1 (c)
      refine bw_iconst (v := 1) dX8_hasThreeNumbers_23 (by decide) ?_
      refine bw_goto (tgt := 28) dX8_hasThreeNumbers_24 (by decide) ?_
      exact bw_ireturn dX8_hasThreeNumbers_28 rfl (bw_nb true) ⟨true, rfl, h⟩
    · replace h := h.2 (c)
      refine bw_aload_n (i := 0) dX8_hasThreeNumbers_15 rfl rfl ?_
      refine bw_geti fg_BentWords_Step_9 h_sp dX8_hasThreeNumbers_16 ?_
      refine bw_iconst (v := 4) dX8_hasThreeNumbers_19 (by decide) ?_
      refine bw_icmp_ne (tgt := 27) dX8_hasThreeNumbers_20 (by decide) (fun c => ?_) (fun c => ?_)
      · replace h := h.1 (c)
        refine bw_iconst (v := 0) dX8_hasThreeNumbers_27 (by decide) ?_
        exact bw_ireturn dX8_hasThreeNumbers_28 rfl (bw_nb false) ⟨false, rfl, h⟩
      · replace h := h.2 (c)
        refine bw_iconst (v := 1) dX8_hasThreeNumbers_23 (by decide) ?_
        refine bw_goto (tgt := 28) dX8_hasThreeNumbers_24 (by decide) ?_
        exact bw_ireturn dX8_hasThreeNumbers_28 rfl (bw_nb true) ⟨true, rfl, h⟩
theorem fs_X8_hasThreeNumbers {E : bw_E} {d : Nat} {w : bw_W} {Q : Bool → bw_W → Prop} {sp : Nat} (h_sp : bw_sh sp = (0, 8, 5))  (h : Q (decide (((gw_i w sp 0) = 0) ∨ (((gw_i w sp 0) = 3) ∨ ((gw_i w sp 0) = 4)))) w) : bw_rb E (d + 0) mX8_hasThreeNumbers [.ref sp] w Q := by
  refine wfX8_hasThreeNumbers h_sp ?_
  refine ⟨fun c0 => ?_, fun c0 => ?_⟩
  · (try simp only [c0, if_true, if_false, ite_true, ite_false, decide_true, decide_false, true_and, and_true, false_and, and_false, not_true_eq_false, not_false_eq_true, true_or, or_true, false_or, or_false, or_self, and_self, Classical.not_not] at h) <;> exact h
  · refine ⟨fun c1 => ?_, fun c1 => ?_⟩
    · (try simp only [c0, c1, if_true, if_false, ite_true, ite_false, decide_true, decide_false, true_and, and_true, false_and, and_false, not_true_eq_false, not_false_eq_true, true_or, or_true, false_or, or_false, or_self, and_self, Classical.not_not] at h) <;> exact h
    · refine ⟨fun c2 => ?_, fun c2 => ?_⟩
      · (try simp only [c0, c1, c2, if_true, if_false, ite_true, ite_false, decide_true, decide_false, true_and, and_true, false_and, and_false, not_true_eq_false, not_false_eq_true, true_or, or_true, false_or, or_false, or_self, and_self, Classical.not_not] at h) <;> exact h
      · (try simp only [c0, c1, c2, if_true, if_false, ite_true, ite_false, decide_true, decide_false, true_and, and_true, false_and, and_false, not_true_eq_false, not_false_eq_true, true_or, or_true, false_or, or_false, or_self, and_self, Classical.not_not] at h) <;> exact h
theorem wfX9_bytesIn_5 {E : bw_E} {d : Nat} {w : bw_W} {Q : Int32 → bw_W → Prop} {l0 : Int32} {l1 : Int32} {l2 : Int32}  (h : ((l2 < 0 → Q l1 w) ∧ (¬ (l2 < 0) → (((((l0.toUInt32 >>> (l2.toUInt32 &&& Int32.toUInt32 31)).toInt32) &&& 255) = 0 → bw_G E (d + 0) mX9_bytesIn 5 [some (.int l0), some (.int l1), some (.int (l2 + (-8)))] [] w (bw_qi Q)) ∧ (¬ ((((l0.toUInt32 >>> (l2.toUInt32 &&& Int32.toUInt32 31)).toInt32) &&& 255) = 0) → bw_G E (d + 0) mX9_bytesIn 5 [some (.int l0), some (.int (l1 + 1)), some (.int (l2 + (-8)))] [] w (bw_qi Q)))))) : bw_G E (d + 0) mX9_bytesIn 5 [some (.int l0), some (.int l1), some (.int l2)] [] w (bw_qi Q) := by
  refine bw_iload_n (i := 2) dX9_bytesIn_5 rfl rfl ?_
  refine bw_if_lt (tgt := 28) dX9_bytesIn_6 (by decide) (fun c => ?_) (fun c => ?_)
  · replace h := h.1 (c)
    refine bw_iload_n (i := 1) dX9_bytesIn_28 rfl rfl ?_
    exact bw_ireturn dX9_bytesIn_29 rfl rfl ⟨_, rfl, h⟩
  · replace h := h.2 (c)
    refine bw_iload_n (i := 0) dX9_bytesIn_9 rfl rfl ?_
    refine bw_iload_n (i := 2) dX9_bytesIn_10 rfl rfl ?_
    refine bw_iushr dX9_bytesIn_11 ?_
    refine bw_sipush (v := 255) dX9_bytesIn_12 (by decide) ?_
    refine bw_iand dX9_bytesIn_15 ?_
    refine bw_if_eq (tgt := 22) dX9_bytesIn_16 (by decide) (fun c => ?_) (fun c => ?_)
    · replace h := h.1 (c)
      refine bw_iinc (i := 2) (x := l2) (v := (l2 + (-8))) (L' := [some (.int l0), some (.int l1), some (.int (l2 + (-8)))]) dX9_bytesIn_22 rfl rfl (Nat.le_of_ble_eq_true rfl) rfl ?_
      refine bw_goto (tgt := 5) dX9_bytesIn_25 (by decide) ?_
      exact h
    · replace h := h.2 (c)
      refine bw_iinc (i := 1) (x := l1) (v := (l1 + 1)) (L' := [some (.int l0), some (.int (l1 + 1)), some (.int l2)]) dX9_bytesIn_19 rfl rfl (Nat.le_of_ble_eq_true rfl) rfl ?_
      refine bw_iinc (i := 2) (x := l2) (v := (l2 + (-8))) (L' := [some (.int l0), some (.int (l1 + 1)), some (.int (l2 + (-8)))]) dX9_bytesIn_22 rfl rfl (Nat.le_of_ble_eq_true rfl) rfl ?_
      refine bw_goto (tgt := 5) dX9_bytesIn_25 (by decide) ?_
      exact h
theorem wfX9_bytesIn {E : bw_E} {d : Nat} {w : bw_W} {Q : Int32 → bw_W → Prop} {a0 : Int32}  (h : bw_G E (d + 0) mX9_bytesIn 5 [some (.int a0), some (.int 0), some (.int 24)] [] w (bw_qi Q)) : bw_ri E (d + 0) mX9_bytesIn [.int a0] w Q := by
  refine bw_enter rfl (Nat.le_of_ble_eq_true rfl) ?_
  refine bw_iconst (v := 0) dX9_bytesIn_0 (by decide) ?_
  refine bw_istore_n (i := 1) (L' := [some (.int a0), some (.int 0), none]) dX9_bytesIn_1 rfl (Nat.le_of_ble_eq_true rfl) rfl ?_
  refine bw_bipush (v := 24) dX9_bytesIn_2 (by decide) ?_
  refine bw_istore_n (i := 2) (L' := [some (.int a0), some (.int 0), some (.int 24)]) dX9_bytesIn_4 rfl (Nat.le_of_ble_eq_true rfl) rfl ?_
  exact h
theorem wfX9_add_3 {E : bw_E} {d : Nat} {w : bw_W} {Q : bw_W → Prop} {l1 : Int32} {l2 : Int32}  (h : ((l2 < 0 → Q w) ∧ (¬ (l2 < 0) → (((((l1.toUInt32 >>> (l2.toUInt32 &&& Int32.toUInt32 31)).toInt32) &&& 255) = 0 → bw_G E (d + 0) mX9_add 3 [some (.ref 1), some (.int l1), some (.int (l2 + (-8))), none] [] w (bw_qv Q)) ∧ (¬ ((((l1.toUInt32 >>> (l2.toUInt32 &&& Int32.toUInt32 31)).toInt32) &&& 255) = 0) → ((480 ≤ (gw_i w 1 1) → bw_G E (d + 0) mX9_add 3 [some (.ref 1), some (.int l1), some (.int (l2 + (-8))), none] [] w (bw_qv Q)) ∧ (¬ (480 ≤ (gw_i w 1 1)) → (vp_in (gw_i w 1 1) 480) ∧
bw_G E (d + 0) mX9_add 3 [some (.ref 1), some (.int l1), some (.int (l2 + (-8))), none] [] (sw_i (sw_i w 2 ((gw_i w 1 1).toNatClampNeg) (vp_nar .char (((((l1.toUInt32 >>> (l2.toUInt32 &&& Int32.toUInt32 31)).toInt32) &&& 255).toUInt32 % 65536).toInt32))) 1 1 ((gw_i w 1 1) + 1)) (bw_qv Q)))))))) : bw_G E (d + 0) mX9_add 3 [some (.ref 1), some (.int l1), some (.int l2), none] [] w (bw_qv Q) := by
  refine bw_iload_n (i := 2) dX9_add_3 rfl rfl ?_
  refine bw_if_lt (tgt := 58) dX9_add_4 (by decide) (fun c => ?_) (fun c => ?_)
  · replace h := h.1 (c)
    exact bw_return dX9_add_58 rfl ⟨rfl, h⟩
  · replace h := h.2 (c)
    refine bw_iload_n (i := 1) dX9_add_7 rfl rfl ?_
    refine bw_iload_n (i := 2) dX9_add_8 rfl rfl ?_
    refine bw_iushr dX9_add_9 ?_
    refine bw_sipush (v := 255) dX9_add_10 (by decide) ?_
    refine bw_iand dX9_add_13 ?_
    refine bw_istore_n (i := 3) (L' := [some (.ref 1), some (.int l1), some (.int l2), some (.int (((l1.toUInt32 >>> (l2.toUInt32 &&& Int32.toUInt32 31)).toInt32) &&& 255))]) dX9_add_14 rfl (Nat.le_of_ble_eq_true rfl) rfl ?_
    refine bw_iload_n (i := 3) dX9_add_15 rfl rfl ?_
    refine bw_if_eq (tgt := 52) dX9_add_16 (by decide) (fun c => ?_) (fun c => ?_)
    · replace h := h.1 (c)
      refine bw_iinc (i := 2) (x := l2) (v := (l2 + (-8))) (L' := [some (.ref 1), some (.int l1), some (.int (l2 + (-8))), some (.int (((l1.toUInt32 >>> (l2.toUInt32 &&& Int32.toUInt32 31)).toInt32) &&& 255))]) dX9_add_52 rfl rfl (Nat.le_of_ble_eq_true rfl) rfl ?_
      refine bw_goto (tgt := 3) dX9_add_55 (by decide) ?_
      exact bw_wk [3] rfl h
    · replace h := h.2 (c)
      refine bw_aload_n (i := 0) dX9_add_19 rfl rfl ?_
      refine bw_geti fg_BentWords_Tape_15 rfl dX9_add_20 ?_
      refine bw_aload_n (i := 0) dX9_add_23 rfl rfl ?_
      refine bw_getr (r := 2) fg_BentWords_Tape_9 rfl rfl dX9_add_24 ?_
      refine bw_alenc (v := 480) rfl (by decide) dX9_add_27 ?_
      refine bw_icmp_ge (tgt := 52) dX9_add_28 (by decide) (fun c => ?_) (fun c => ?_)
      · replace h := h.1 (c)
        refine bw_iinc (i := 2) (x := l2) (v := (l2 + (-8))) (L' := [some (.ref 1), some (.int l1), some (.int (l2 + (-8))), some (.int (((l1.toUInt32 >>> (l2.toUInt32 &&& Int32.toUInt32 31)).toInt32) &&& 255))]) dX9_add_52 rfl rfl (Nat.le_of_ble_eq_true rfl) rfl ?_
        refine bw_goto (tgt := 3) dX9_add_55 (by decide) ?_
        exact bw_wk [3] rfl h
      · replace h := h.2 (c)
        refine bw_aload_n (i := 0) dX9_add_31 rfl rfl ?_
        refine bw_getr (r := 2) fg_BentWords_Tape_9 rfl rfl dX9_add_32 ?_
        refine bw_aload_n (i := 0) dX9_add_35 rfl rfl ?_
        refine bw_geti fg_BentWords_Tape_15 rfl dX9_add_36 ?_
        refine bw_iload_n (i := 3) dX9_add_39 rfl rfl ?_
        refine bw_i2c dX9_add_40 ?_
        obtain ⟨hi1, h⟩ := h
        refine bw_castore rfl hi1 dX9_add_41 ?_
        refine bw_aload_n (i := 0) dX9_add_42 rfl rfl ?_
        refine bw_dup dX9_add_43 rfl ?_
        refine bw_geti fg_BentWords_Tape_15 rfl dX9_add_44 ?_
        rw [show gw_i (sw_i w 2 ((gw_i w 1 1).toNatClampNeg) (vp_nar .char (((((l1.toUInt32 >>> (l2.toUInt32 &&& Int32.toUInt32 31)).toInt32) &&& 255).toUInt32 % 65536).toInt32))) 1 1 = (gw_i w 1 1) from rfl]
        refine bw_iconst (v := 1) dX9_add_47 (by decide) ?_
        refine bw_iadd dX9_add_48 ?_
        refine bw_puti fp_BentWords_Tape_15 rfl rfl rfl dX9_add_49 ?_
        refine bw_iinc (i := 2) (x := l2) (v := (l2 + (-8))) (L' := [some (.ref 1), some (.int l1), some (.int (l2 + (-8))), some (.int (((l1.toUInt32 >>> (l2.toUInt32 &&& Int32.toUInt32 31)).toInt32) &&& 255))]) dX9_add_52 rfl rfl (Nat.le_of_ble_eq_true rfl) rfl ?_
        refine bw_goto (tgt := 3) dX9_add_55 (by decide) ?_
        exact bw_wk [3] rfl h
theorem wfX9_add {E : bw_E} {d : Nat} {w : bw_W} {Q : bw_W → Prop} {a0 : Int32}  (h : bw_G E (d + 0) mX9_add 3 [some (.ref 1), some (.int a0), some (.int 24), none] [] w (bw_qv Q)) : bw_rv E (d + 0) mX9_add [.ref 1, .int a0] w Q := by
  refine bw_enter rfl (Nat.le_of_ble_eq_true rfl) ?_
  refine bw_bipush (v := 24) dX9_add_0 (by decide) ?_
  refine bw_istore_n (i := 2) (L' := [some (.ref 1), some (.int a0), some (.int 24), none]) dX9_add_2 rfl (Nat.le_of_ble_eq_true rfl) rfl ?_
  exact h
theorem wfX10_refuse {E : bw_E} {d : Nat} {w : bw_W} {Q : Bool → bw_W → Prop} {a0 : Int32} {a1 : Int32}  (h : Q false (sw_i (sw_i w 35 5 a0) 35 6 a1)) : bw_rb E (d + 0) mX10_refuse [.ref 35, .int a0, .int a1] w Q := by
  refine bw_enter rfl (Nat.le_of_ble_eq_true rfl) ?_
  refine bw_aload_n (i := 0) dX10_refuse_0 rfl rfl ?_
  refine bw_iload_n (i := 1) dX10_refuse_1 rfl rfl ?_
  refine bw_puti fp_BentWords_Teller_63 rfl rfl rfl dX10_refuse_2 ?_
  refine bw_aload_n (i := 0) dX10_refuse_5 rfl rfl ?_
  refine bw_iload_n (i := 2) dX10_refuse_6 rfl rfl ?_
  refine bw_puti fp_BentWords_Teller_66 rfl rfl rfl dX10_refuse_7 ?_
  refine bw_iconst (v := 0) dX10_refuse_10 (by decide) ?_
  exact bw_ireturn dX10_refuse_11 rfl (bw_nb false) ⟨false, rfl, h⟩
theorem fs_X10_refuse {E : bw_E} {d : Nat} {w : bw_W} {Q : Bool → bw_W → Prop} {a0 : Int32} {a1 : Int32}   (h : Q (decide (False)) (sw_i (sw_i w 35 5 a0) 35 6 a1)) : bw_rb E (d + 0) mX10_refuse [.ref 35, .int a0, .int a1] w Q := by
  refine wfX10_refuse  ?_
  exact h
theorem wfX10_isLineAs_15 {E : bw_E} {d : Nat} {w : bw_W} {Q : Bool → bw_W → Prop} {l2 : Int32} {l3 : Int32}  (h : (((gw_i w 35 3) ≤ l3 → Q true w) ∧ (¬ ((gw_i w 35 3) ≤ l3) → (vp_in l3 144) ∧
(vp_in l3 480) ∧
(((gw_i w 36 (l3.toNatClampNeg)) = (gw_i w 2 (l3.toNatClampNeg)) → bw_G E (d + 0) mX10_isLineAs 15 [some (.ref 35), some (.ref 1), some (.int l2), some (.int (l3 + 1))] [] w (bw_qb Q)) ∧ (¬ ((gw_i w 36 (l3.toNatClampNeg)) = (gw_i w 2 (l3.toNatClampNeg))) → Q false w))))) : bw_G E (d + 0) mX10_isLineAs 15 [some (.ref 35), some (.ref 1), some (.int l2), some (.int l3)] [] w (bw_qb Q) := by
  refine bw_iload_n (i := 3) dX10_isLineAs_15 rfl rfl ?_
  refine bw_aload_n (i := 0) dX10_isLineAs_16 rfl rfl ?_
  refine bw_geti fg_BentWords_Teller_119 rfl dX10_isLineAs_17 ?_
  refine bw_icmp_ge (tgt := 46) dX10_isLineAs_20 (by decide) (fun c => ?_) (fun c => ?_)
  · replace h := h.1 (c)
    refine bw_iconst (v := 1) dX10_isLineAs_46 (by decide) ?_
    exact bw_ireturn dX10_isLineAs_47 rfl (bw_nb true) ⟨true, rfl, h⟩
  · replace h := h.2 (c)
    refine bw_aload_n (i := 0) dX10_isLineAs_23 rfl rfl ?_
    refine bw_getr (r := 36) fg_BentWords_Teller_19 rfl rfl dX10_isLineAs_24 ?_
    refine bw_iload_n (i := 3) dX10_isLineAs_27 rfl rfl ?_
    obtain ⟨hi1, h⟩ := h
    refine bw_caload rfl hi1 dX10_isLineAs_28 ?_
    refine bw_aload_n (i := 1) dX10_isLineAs_29 rfl rfl ?_
    refine bw_getr (r := 2) fg_BentWords_Teller_135 rfl rfl dX10_isLineAs_30 ?_
    refine bw_iload_n (i := 3) dX10_isLineAs_33 rfl rfl ?_
    obtain ⟨hi2, h⟩ := h
    refine bw_caload rfl hi2 dX10_isLineAs_34 ?_
    refine bw_icmp_eq (tgt := 40) dX10_isLineAs_35 (by decide) (fun c => ?_) (fun c => ?_)
    · replace h := h.1 (c)
      refine bw_iinc (i := 3) (x := l3) (v := (l3 + 1)) (L' := [some (.ref 35), some (.ref 1), some (.int l2), some (.int (l3 + 1))]) dX10_isLineAs_40 rfl rfl (Nat.le_of_ble_eq_true rfl) rfl ?_
      refine bw_goto (tgt := 15) dX10_isLineAs_43 (by decide) ?_
      exact h
    · replace h := h.2 (c)
      refine bw_iconst (v := 0) dX10_isLineAs_38 (by decide) ?_
      exact bw_ireturn dX10_isLineAs_39 rfl (bw_nb false) ⟨false, rfl, h⟩
theorem wfX10_isLineAs {E : bw_E} {d : Nat} {w : bw_W} {Q : Bool → bw_W → Prop} {a1 : Int32}  (h : (((gw_i w 35 3) ≤ (gw_i w 1 1) → bw_G E (d + 0) mX10_isLineAs 15 [some (.ref 35), some (.ref 1), some (.int a1), some (.int a1)] [] w (bw_qb Q)) ∧ (¬ ((gw_i w 35 3) ≤ (gw_i w 1 1)) → Q false w))) : bw_rb E (d + 0) mX10_isLineAs [.ref 35, .ref 1, .int a1] w Q := by
  refine bw_enter rfl (Nat.le_of_ble_eq_true rfl) ?_
  refine bw_aload_n (i := 0) dX10_isLineAs_0 rfl rfl ?_
  refine bw_geti fg_BentWords_Teller_119 rfl dX10_isLineAs_1 ?_
  refine bw_aload_n (i := 1) dX10_isLineAs_4 rfl rfl ?_
  refine bw_geti fg_BentWords_Teller_130 rfl dX10_isLineAs_5 ?_
  refine bw_icmp_le (tgt := 13) dX10_isLineAs_8 (by decide) (fun c => ?_) (fun c => ?_)
  · replace h := h.1 (c)
    refine bw_iload_n (i := 2) dX10_isLineAs_13 rfl rfl ?_
    refine bw_istore_n (i := 3) (L' := [some (.ref 35), some (.ref 1), some (.int a1), some (.int a1)]) dX10_isLineAs_14 rfl (Nat.le_of_ble_eq_true rfl) rfl ?_
    exact h
  · replace h := h.2 (c)
    refine bw_iconst (v := 0) dX10_isLineAs_11 (by decide) ?_
    exact bw_ireturn dX10_isLineAs_12 rfl (bw_nb false) ⟨false, rfl, h⟩
theorem wfX10_putByte {E : bw_E} {d : Nat} {w : bw_W} {Q : bw_W → Prop} {a0 : Int32}  (h : ((144 ≤ (gw_i w 35 3) → Q w) ∧ (¬ (144 ≤ (gw_i w 35 3)) → (vp_in (gw_i w 35 3) 144) ∧
Q (sw_i (sw_i w 36 ((gw_i w 35 3).toNatClampNeg) (vp_nar .char ((a0.toUInt32 % 65536).toInt32))) 35 3 ((gw_i w 35 3) + 1))))) : bw_rv E (d + 0) mX10_putByte [.ref 35, .int a0] w Q := by
  refine bw_enter rfl (Nat.le_of_ble_eq_true rfl) ?_
  refine bw_aload_n (i := 0) dX10_putByte_0 rfl rfl ?_
  refine bw_geti fg_BentWords_Teller_119 rfl dX10_putByte_1 ?_
  refine bw_aload_n (i := 0) dX10_putByte_4 rfl rfl ?_
  refine bw_getr (r := 36) fg_BentWords_Teller_19 rfl rfl dX10_putByte_5 ?_
  refine bw_alenc (v := 144) rfl (by decide) dX10_putByte_8 ?_
  refine bw_icmp_ge (tgt := 33) dX10_putByte_9 (by decide) (fun c => ?_) (fun c => ?_)
  · replace h := h.1 (c)
    exact bw_return dX10_putByte_33 rfl ⟨rfl, h⟩
  · replace h := h.2 (c)
    refine bw_aload_n (i := 0) dX10_putByte_12 rfl rfl ?_
    refine bw_getr (r := 36) fg_BentWords_Teller_19 rfl rfl dX10_putByte_13 ?_
    refine bw_aload_n (i := 0) dX10_putByte_16 rfl rfl ?_
    refine bw_geti fg_BentWords_Teller_119 rfl dX10_putByte_17 ?_
    refine bw_iload_n (i := 1) dX10_putByte_20 rfl rfl ?_
    refine bw_i2c dX10_putByte_21 ?_
    obtain ⟨hi1, h⟩ := h
    refine bw_castore rfl hi1 dX10_putByte_22 ?_
    refine bw_aload_n (i := 0) dX10_putByte_23 rfl rfl ?_
    refine bw_dup dX10_putByte_24 rfl ?_
    refine bw_geti fg_BentWords_Teller_119 rfl dX10_putByte_25 ?_
    rw [show gw_i (sw_i w 36 ((gw_i w 35 3).toNatClampNeg) (vp_nar .char ((a0.toUInt32 % 65536).toInt32))) 35 3 = (gw_i w 35 3) from rfl]
    refine bw_iconst (v := 1) dX10_putByte_28 (by decide) ?_
    refine bw_iadd dX10_putByte_29 ?_
    refine bw_puti fp_BentWords_Teller_119 rfl rfl rfl dX10_putByte_30 ?_
    exact bw_return dX10_putByte_33 rfl ⟨rfl, h⟩
theorem wfX11_end {E : bw_E} {d : Nat} {w : bw_W} {Q : Bool → bw_W → Prop} {a0 : Int32}  (h : ((a0 < 0 → Q false w) ∧ (¬ (a0 < 0) → ((a0 ≤ (gw_i w 1 1) → Q true (sw_i w 1 1 a0)) ∧ (¬ (a0 ≤ (gw_i w 1 1)) → Q false w))))) : bw_rb E (d + 0) mX11_end [.ref 0, .int a0] w Q := by
  refine bw_enter rfl (Nat.le_of_ble_eq_true rfl) ?_
  refine bw_iload_n (i := 1) dX11_end_0 rfl rfl ?_
  refine bw_if_lt (tgt := 15) dX11_end_1 (by decide) (fun c => ?_) (fun c => ?_)
  · replace h := h.1 (c)
    refine bw_iconst (v := 0) dX11_end_15 (by decide) ?_
    exact bw_ireturn dX11_end_16 rfl (bw_nb false) ⟨false, rfl, h⟩
  · replace h := h.2 (c)
    refine bw_iload_n (i := 1) dX11_end_4 rfl rfl ?_
    refine bw_aload_n (i := 0) dX11_end_5 rfl rfl ?_
    refine bw_getr (r := 1) fg_BentWords_12 rfl rfl dX11_end_6 ?_
    refine bw_geti fg_BentWords_109 rfl dX11_end_9 ?_
    refine bw_icmp_le (tgt := 17) dX11_end_12 (by decide) (fun c => ?_) (fun c => ?_)
    · replace h := h.1 (c)
      refine bw_aload_n (i := 0) dX11_end_17 rfl rfl ?_
      refine bw_getr (r := 1) fg_BentWords_12 rfl rfl dX11_end_18 ?_
      refine bw_iload_n (i := 1) dX11_end_21 rfl rfl ?_
      refine bw_puti fp_BentWords_109 rfl rfl rfl dX11_end_22 ?_
      refine bw_iconst (v := 1) dX11_end_25 (by decide) ?_
      exact bw_ireturn dX11_end_26 rfl (bw_nb true) ⟨true, rfl, h⟩
    · replace h := h.2 (c)
      refine bw_iconst (v := 0) dX11_end_15 (by decide) ?_
      exact bw_ireturn dX11_end_16 rfl (bw_nb false) ⟨false, rfl, h⟩
theorem wfX11_adoptScript {E : bw_E} {d : Nat} {w : bw_W} {Q : Int32 → bw_W → Prop}   (h : Q (((gw_i w 0 7) + 1) - 1) (sw_i (sw_i w 1 1 0) 0 7 ((gw_i w 0 7) + 1))) : bw_ri E (d + 0) mX11_adoptScript [.ref 0] w Q := by
  refine bw_enter rfl (Nat.le_of_ble_eq_true rfl) ?_
  refine bw_aload_n (i := 0) dX11_adoptScript_0 rfl rfl ?_
  refine bw_getr (r := 1) fg_BentWords_12 rfl rfl dX11_adoptScript_1 ?_
  refine bw_iconst (v := 0) dX11_adoptScript_4 (by decide) ?_
  refine bw_puti fp_BentWords_109 rfl rfl rfl dX11_adoptScript_5 ?_
  refine bw_aload_n (i := 0) dX11_adoptScript_8 rfl rfl ?_
  refine bw_dup dX11_adoptScript_9 rfl ?_
  refine bw_geti fg_BentWords_121 rfl dX11_adoptScript_10 ?_
  rw [show gw_i (sw_i w 1 1 0) 0 7 = (gw_i w 0 7) from rfl]
  refine bw_iconst (v := 1) dX11_adoptScript_13 (by decide) ?_
  refine bw_iadd dX11_adoptScript_14 ?_
  refine bw_puti fp_BentWords_121 rfl rfl rfl dX11_adoptScript_15 ?_
  refine bw_aload_n (i := 0) dX11_adoptScript_18 rfl rfl ?_
  refine bw_geti fg_BentWords_121 rfl dX11_adoptScript_19 ?_
  rw [show gw_i (sw_i (sw_i w 1 1 0) 0 7 ((gw_i w 0 7) + 1)) 0 7 = ((gw_i w 0 7) + 1) from rfl]
  refine bw_iconst (v := 1) dX11_adoptScript_22 (by decide) ?_
  refine bw_isub dX11_adoptScript_23 ?_
  exact bw_ireturn dX11_adoptScript_24 rfl rfl ⟨_, rfl, h⟩
theorem fs_X11_adoptScript {E : bw_E} {d : Nat} {w : bw_W} {Q : Int32 → bw_W → Prop}    (h : Q (((gw_i w 0 7) + 1) - 1) (sw_i (sw_i w 1 1 0) 0 7 ((gw_i w 0 7) + 1))) : bw_ri E (d + 0) mX11_adoptScript [.ref 0] w Q := by
  refine wfX11_adoptScript  ?_
  exact h
theorem wfX11_formsLacking_5 {E : bw_E} {d : Nat} {w : bw_W} {Q : Int32 → bw_W → Prop} {l1 : Int32} {l2 : Int32} {l3 : Int32} {l4 : Int32}  (h : ((8 ≤ l4 → Q l3 w) ∧ (¬ (8 ≤ l4) → ((((l2 >>> ((l4 / 2) &&& 31)) &&& 1) = 0 → bw_G E (d + 0) mX11_formsLacking 5 [some (.ref 0), some (.int l1), some (.int l2), some (.int l3), some (.int (l4 + 1)), none] [] w (bw_qi Q)) ∧ (¬ (((l2 >>> ((l4 / 2) &&& 31)) &&& 1) = 0) → (vp_in ((l1 * 8) + l4) 52) ∧
((¬ (gw_l w 32 (((l1 * 8) + l4).toNatClampNeg)) = 0 → bw_G E (d + 0) mX11_formsLacking 5 [some (.ref 0), some (.int l1), some (.int l2), some (.int l3), some (.int (l4 + 1)), none] [] w (bw_qi Q)) ∧ ((gw_l w 32 (((l1 * 8) + l4).toNatClampNeg)) = 0 → bw_G E (d + 0) mX11_formsLacking 5 [some (.ref 0), some (.int l1), some (.int l2), some (.int (l3 + 1)), some (.int (l4 + 1)), none] [] w (bw_qi Q)))))))) : bw_G E (d + 0) mX11_formsLacking 5 [some (.ref 0), some (.int l1), some (.int l2), some (.int l3), some (.int l4), none] [] w (bw_qi Q) := by
  refine bw_iload dX11_formsLacking_5 rfl ?_
  refine bw_bipush (v := 8) dX11_formsLacking_7 (by decide) ?_
  refine bw_icmp_ge (tgt := 64) dX11_formsLacking_9 (by decide) (fun c => ?_) (fun c => ?_)
  · replace h := h.1 (c)
    refine bw_iload_n (i := 3) dX11_formsLacking_64 rfl rfl ?_
    exact bw_ireturn dX11_formsLacking_65 rfl rfl ⟨_, rfl, h⟩
  · replace h := h.2 (c)
    refine bw_iload_n (i := 2) dX11_formsLacking_12 rfl rfl ?_
    refine bw_iload dX11_formsLacking_13 rfl ?_
    refine bw_iconst (v := 2) dX11_formsLacking_15 (by decide) ?_
    refine bw_idiv dX11_formsLacking_16 (by decide) ?_
    refine bw_ishr dX11_formsLacking_17 ?_
    refine bw_iconst (v := 1) dX11_formsLacking_18 (by decide) ?_
    refine bw_iand dX11_formsLacking_19 ?_
    refine bw_if_eq (tgt := 27) dX11_formsLacking_20 (by decide) (fun c => ?_) (fun c => ?_)
    · replace h := h.1 (c)
      refine bw_iconst (v := 0) dX11_formsLacking_27 (by decide) ?_
      refine bw_istore (i := 5) (L' := [some (.ref 0), some (.int l1), some (.int l2), some (.int l3), some (.int l4), some (.int 0)]) dX11_formsLacking_28 (Nat.le_of_ble_eq_true rfl) rfl ?_
      refine bw_iload dX11_formsLacking_30 rfl ?_
      refine bw_if_eq (tgt := 58) dX11_formsLacking_32 (by decide) (fun _ => ?_) (fun c => absurd c (by decide))
      refine bw_iinc (i := 4) (x := l4) (v := (l4 + 1)) (L' := [some (.ref 0), some (.int l1), some (.int l2), some (.int l3), some (.int (l4 + 1)), some (.int 0)]) dX11_formsLacking_58 rfl rfl (Nat.le_of_ble_eq_true rfl) rfl ?_
      refine bw_goto (tgt := 5) dX11_formsLacking_61 (by decide) ?_
      exact bw_wk [5] rfl h
    · replace h := h.2 (c)
      refine bw_iconst (v := 1) dX11_formsLacking_23 (by decide) ?_
      refine bw_goto (tgt := 28) dX11_formsLacking_24 (by decide) ?_
      refine bw_istore (i := 5) (L' := [some (.ref 0), some (.int l1), some (.int l2), some (.int l3), some (.int l4), some (.int 1)]) dX11_formsLacking_28 (Nat.le_of_ble_eq_true rfl) rfl ?_
      refine bw_iload dX11_formsLacking_30 rfl ?_
      refine bw_if_eq (tgt := 58) dX11_formsLacking_32 (by decide) (fun c => absurd c (by decide)) (fun _ => ?_)
      refine bw_aload_n (i := 0) dX11_formsLacking_35 rfl rfl ?_
      refine bw_getr (r := 31) fg_BentWords_58 rfl rfl dX11_formsLacking_36 ?_
      refine bw_getr (r := 32) fg_BentWords_170 rfl rfl dX11_formsLacking_39 ?_
      refine bw_iload_n (i := 1) dX11_formsLacking_42 rfl rfl ?_
      refine bw_bipush (v := 8) dX11_formsLacking_43 (by decide) ?_
      refine bw_imul dX11_formsLacking_45 ?_
      refine bw_iload dX11_formsLacking_46 rfl ?_
      refine bw_iadd dX11_formsLacking_48 ?_
      obtain ⟨hi1, h⟩ := h
      refine bw_laload rfl hi1 dX11_formsLacking_49 ?_
      refine bw_lconst (v := 0) dX11_formsLacking_50 rfl ?_
      refine bw_lcmp_ne (tgt := 58) dX11_formsLacking_51 dX11_formsLacking_52 (by decide) (fun c => ?_) (fun c => ?_)
      · replace h := h.1 (c)
        refine bw_iinc (i := 4) (x := l4) (v := (l4 + 1)) (L' := [some (.ref 0), some (.int l1), some (.int l2), some (.int l3), some (.int (l4 + 1)), some (.int 1)]) dX11_formsLacking_58 rfl rfl (Nat.le_of_ble_eq_true rfl) rfl ?_
        refine bw_goto (tgt := 5) dX11_formsLacking_61 (by decide) ?_
        exact bw_wk [5] rfl h
      · replace h := h.2 (c)
        refine bw_iinc (i := 3) (x := l3) (v := (l3 + 1)) (L' := [some (.ref 0), some (.int l1), some (.int l2), some (.int (l3 + 1)), some (.int l4), some (.int 1)]) dX11_formsLacking_55 rfl rfl (Nat.le_of_ble_eq_true rfl) rfl ?_
        refine bw_iinc (i := 4) (x := l4) (v := (l4 + 1)) (L' := [some (.ref 0), some (.int l1), some (.int l2), some (.int (l3 + 1)), some (.int (l4 + 1)), some (.int 1)]) dX11_formsLacking_58 rfl rfl (Nat.le_of_ble_eq_true rfl) rfl ?_
        refine bw_goto (tgt := 5) dX11_formsLacking_61 (by decide) ?_
        exact bw_wk [5] rfl h
theorem wfX11_formsLacking {E : bw_E} {d : Nat} {w : bw_W} {Q : Int32 → bw_W → Prop} {a0 : Int32} {a1 : Int32}  (h : bw_G E (d + 0) mX11_formsLacking 5 [some (.ref 0), some (.int a0), some (.int a1), some (.int 0), some (.int 0), none] [] w (bw_qi Q)) : bw_ri E (d + 0) mX11_formsLacking [.ref 0, .int a0, .int a1] w Q := by
  refine bw_enter rfl (Nat.le_of_ble_eq_true rfl) ?_
  refine bw_iconst (v := 0) dX11_formsLacking_0 (by decide) ?_
  refine bw_istore_n (i := 3) (L' := [some (.ref 0), some (.int a0), some (.int a1), some (.int 0), none, none]) dX11_formsLacking_1 rfl (Nat.le_of_ble_eq_true rfl) rfl ?_
  refine bw_iconst (v := 0) dX11_formsLacking_2 (by decide) ?_
  refine bw_istore (i := 4) (L' := [some (.ref 0), some (.int a0), some (.int a1), some (.int 0), some (.int 0), none]) dX11_formsLacking_3 (Nat.le_of_ble_eq_true rfl) rfl ?_
  exact h
theorem wfX11_status {E : bw_E} {d : Nat} {w : bw_W} {Q : Int32 → bw_W → Prop} {a0 : Int32}  (h : ((a0 < 0 → Q (-1) w) ∧ (¬ (a0 < 0) → ((3 ≤ a0 → Q (-1) w) ∧ (¬ (3 ≤ a0) → (vp_in a0 3) ∧
Q (gw_i w 47 (a0.toNatClampNeg)) w))))) : bw_ri E (d + 0) mX11_status [.ref 0, .int a0] w Q := by
  refine bw_enter rfl (Nat.le_of_ble_eq_true rfl) ?_
  refine bw_iload_n (i := 1) dX11_status_0 rfl rfl ?_
  refine bw_if_lt (tgt := 18) dX11_status_1 (by decide) (fun c => ?_) (fun c => ?_)
  · replace h := h.1 (c)
    refine bw_iconst (v := (-1)) dX11_status_18 (by decide) ?_
    exact bw_ireturn dX11_status_19 rfl rfl ⟨_, rfl, h⟩
  · replace h := h.2 (c)
    refine bw_iload_n (i := 1) dX11_status_4 rfl rfl ?_
    refine bw_iconst (v := 3) dX11_status_5 (by decide) ?_
    refine bw_icmp_ge (tgt := 18) dX11_status_6 (by decide) (fun c => ?_) (fun c => ?_)
    · replace h := h.1 (c)
      refine bw_iconst (v := (-1)) dX11_status_18 (by decide) ?_
      exact bw_ireturn dX11_status_19 rfl rfl ⟨_, rfl, h⟩
    · replace h := h.2 (c)
      refine bw_aload_n (i := 0) dX11_status_9 rfl rfl ?_
      refine bw_getr (r := 47) fg_BentWords_87 rfl rfl dX11_status_10 ?_
      refine bw_iload_n (i := 1) dX11_status_13 rfl rfl ?_
      obtain ⟨hi1, h⟩ := h
      refine bw_iaload rfl hi1 dX11_status_14 ?_
      refine bw_goto (tgt := 19) dX11_status_15 (by decide) ?_
      exact bw_ireturn dX11_status_19 rfl rfl ⟨_, rfl, h⟩
def vX11_status (w : bw_W) (a0 : Int32) : Int32 := (if a0 < 0 then (-1) else (if 3 ≤ a0 then (-1) else (gw_i w 47 (a0.toNatClampNeg))))
theorem fs_X11_status {E : bw_E} {d : Nat} {w : bw_W} {Q : Int32 → bw_W → Prop} {a0 : Int32}  (hc0 : (¬ (a0 < 0)) → (¬ (3 ≤ a0)) → (vp_in a0 3)) (h : Q (vX11_status w a0) w) : bw_ri E (d + 0) mX11_status [.ref 0, .int a0] w Q := by
  refine wfX11_status  ?_
  refine ⟨fun c0 => ?_, fun c0 => ?_⟩
  · (try simp only [vX11_status, c0, if_true, if_false, ite_true, ite_false, decide_true, decide_false, true_and, and_true, false_and, and_false, not_true_eq_false, not_false_eq_true, true_or, or_true, false_or, or_false, or_self, and_self, Classical.not_not] at h) <;> exact h
  · refine ⟨fun c1 => ?_, fun c1 => ?_⟩
    · (try simp only [vX11_status, c0, c1, if_true, if_false, ite_true, ite_false, decide_true, decide_false, true_and, and_true, false_and, and_false, not_true_eq_false, not_false_eq_true, true_or, or_true, false_or, or_false, or_self, and_self, Classical.not_not] at h) <;> exact h
    · refine ⟨hc0 c0 c1, ?_⟩
      (try simp only [vX11_status, c0, c1, if_true, if_false, ite_true, ite_false, decide_true, decide_false, true_and, and_true, false_and, and_false, not_true_eq_false, not_false_eq_true, true_or, or_true, false_or, or_false, or_self, and_self, Classical.not_not] at h) <;> exact h
theorem wfX11_hasTwin_9 {E : bw_E} {d : Nat} {w : bw_W} {Q : Bool → bw_W → Prop} {l1 : Int32} {l2 : Int32} {l3 : Int32}  (h : (((l2 + 8) ≤ l3 → Q false w) ∧ (¬ ((l2 + 8) ≤ l3) → ((l3 = l1 → bw_G E (d + 0) mX11_hasTwin 9 [some (.ref 0), some (.int l1), some (.int l2), some (.int (l3 + 1))] [] w (bw_qb Q)) ∧ (¬ (l3 = l1) → (vp_in l3 52) ∧
(vp_in l1 52) ∧
((¬ (gw_l w 32 (l3.toNatClampNeg)) = (gw_l w 32 (l1.toNatClampNeg)) → bw_G E (d + 0) mX11_hasTwin 9 [some (.ref 0), some (.int l1), some (.int l2), some (.int (l3 + 1))] [] w (bw_qb Q)) ∧ ((gw_l w 32 (l3.toNatClampNeg)) = (gw_l w 32 (l1.toNatClampNeg)) → Q true w))))))) : bw_G E (d + 0) mX11_hasTwin 9 [some (.ref 0), some (.int l1), some (.int l2), some (.int l3)] [] w (bw_qb Q) := by
  refine bw_iload_n (i := 3) dX11_hasTwin_9 rfl rfl ?_
  refine bw_iload_n (i := 2) dX11_hasTwin_10 rfl rfl ?_
  refine bw_bipush (v := 8) dX11_hasTwin_11 (by decide) ?_
  refine bw_iadd dX11_hasTwin_13 ?_
  refine bw_icmp_ge (tgt := 52) dX11_hasTwin_14 (by decide) (fun c => ?_) (fun c => ?_)
  · replace h := h.1 (c)
    refine bw_iconst (v := 0) dX11_hasTwin_52 (by decide) ?_
    exact bw_ireturn dX11_hasTwin_53 rfl (bw_nb false) ⟨false, rfl, h⟩
  · replace h := h.2 (c)
    refine bw_iload_n (i := 3) dX11_hasTwin_17 rfl rfl ?_
    refine bw_iload_n (i := 1) dX11_hasTwin_18 rfl rfl ?_
    refine bw_icmp_eq (tgt := 46) dX11_hasTwin_19 (by decide) (fun c => ?_) (fun c => ?_)
    · replace h := h.1 (c)
      refine bw_iinc (i := 3) (x := l3) (v := (l3 + 1)) (L' := [some (.ref 0), some (.int l1), some (.int l2), some (.int (l3 + 1))]) dX11_hasTwin_46 rfl rfl (Nat.le_of_ble_eq_true rfl) rfl ?_
      refine bw_goto (tgt := 9) dX11_hasTwin_49 (by decide) ?_
      exact h
    · replace h := h.2 (c)
      refine bw_aload_n (i := 0) dX11_hasTwin_22 rfl rfl ?_
      refine bw_getr (r := 31) fg_BentWords_58 rfl rfl dX11_hasTwin_23 ?_
      refine bw_getr (r := 32) fg_BentWords_170 rfl rfl dX11_hasTwin_26 ?_
      refine bw_iload_n (i := 3) dX11_hasTwin_29 rfl rfl ?_
      obtain ⟨hi1, h⟩ := h
      refine bw_laload rfl hi1 dX11_hasTwin_30 ?_
      refine bw_aload_n (i := 0) dX11_hasTwin_31 rfl rfl ?_
      refine bw_getr (r := 31) fg_BentWords_58 rfl rfl dX11_hasTwin_32 ?_
      refine bw_getr (r := 32) fg_BentWords_170 rfl rfl dX11_hasTwin_35 ?_
      refine bw_iload_n (i := 1) dX11_hasTwin_38 rfl rfl ?_
      obtain ⟨hi2, h⟩ := h
      refine bw_laload rfl hi2 dX11_hasTwin_39 ?_
      refine bw_lcmp_ne (tgt := 46) dX11_hasTwin_40 dX11_hasTwin_41 (by decide) (fun c => ?_) (fun c => ?_)
      · replace h := h.1 (c)
        refine bw_iinc (i := 3) (x := l3) (v := (l3 + 1)) (L' := [some (.ref 0), some (.int l1), some (.int l2), some (.int (l3 + 1))]) dX11_hasTwin_46 rfl rfl (Nat.le_of_ble_eq_true rfl) rfl ?_
        refine bw_goto (tgt := 9) dX11_hasTwin_49 (by decide) ?_
        exact h
      · replace h := h.2 (c)
        refine bw_iconst (v := 1) dX11_hasTwin_44 (by decide) ?_
        exact bw_ireturn dX11_hasTwin_45 rfl (bw_nb true) ⟨true, rfl, h⟩
theorem wfX11_hasTwin {E : bw_E} {d : Nat} {w : bw_W} {Q : Bool → bw_W → Prop} {a0 : Int32}  (h : bw_G E (d + 0) mX11_hasTwin 9 [some (.ref 0), some (.int a0), some (.int (a0 - (a0 - a0 / 8 * 8))), some (.int (a0 - (a0 - a0 / 8 * 8)))] [] w (bw_qb Q)) : bw_rb E (d + 0) mX11_hasTwin [.ref 0, .int a0] w Q := by
  refine bw_enter rfl (Nat.le_of_ble_eq_true rfl) ?_
  refine bw_iload_n (i := 1) dX11_hasTwin_0 rfl rfl ?_
  refine bw_iload_n (i := 1) dX11_hasTwin_1 rfl rfl ?_
  refine bw_bipush (v := 8) dX11_hasTwin_2 (by decide) ?_
  refine bw_irem dX11_hasTwin_4 (by decide) ?_
  refine bw_isub dX11_hasTwin_5 ?_
  refine bw_istore_n (i := 2) (L' := [some (.ref 0), some (.int a0), some (.int (a0 - (a0 - a0 / 8 * 8))), none]) dX11_hasTwin_6 rfl (Nat.le_of_ble_eq_true rfl) rfl ?_
  refine bw_iload_n (i := 2) dX11_hasTwin_7 rfl rfl ?_
  refine bw_istore_n (i := 3) (L' := [some (.ref 0), some (.int a0), some (.int (a0 - (a0 - a0 / 8 * 8))), some (.int (a0 - (a0 - a0 / 8 * 8)))]) dX11_hasTwin_8 rfl (Nat.le_of_ble_eq_true rfl) rfl ?_
  exact h
theorem wfX11_hasNoun {E : bw_E} {d : Nat} {w : bw_W} {Q : Bool → bw_W → Prop} {a0 : Int32}  (h : ((a0 < 0 → Q false w) ∧ (¬ (a0 < 0) → (((gw_i w 18 0) ≤ a0 → Q false w) ∧ (¬ ((gw_i w 18 0) ≤ a0) → Q true w))))) : bw_rb E (d + 0) mX11_hasNoun [.ref 0, .int a0] w Q := by
  refine bw_enter rfl (Nat.le_of_ble_eq_true rfl) ?_
  refine bw_iload_n (i := 1) dX11_hasNoun_0 rfl rfl ?_
  refine bw_if_lt (tgt := 19) dX11_hasNoun_1 (by decide) (fun c => ?_) (fun c => ?_)
  · replace h := h.1 (c)
    refine bw_iconst (v := 0) dX11_hasNoun_19 (by decide) ?_
    exact bw_ireturn dX11_hasNoun_20 rfl (bw_nb false) ⟨false, rfl, h⟩
  · replace h := h.2 (c)
    refine bw_iload_n (i := 1) dX11_hasNoun_4 rfl rfl ?_
    refine bw_aload_n (i := 0) dX11_hasNoun_5 rfl rfl ?_
    refine bw_getr (r := 18) fg_BentWords_44 rfl rfl dX11_hasNoun_6 ?_
    refine bw_geti fg_BentWords_153 rfl dX11_hasNoun_9 ?_
    refine bw_icmp_ge (tgt := 19) dX11_hasNoun_12 (by decide) (fun c => ?_) (fun c => ?_)
    · replace h := h.1 (c)
      refine bw_iconst (v := 0) dX11_hasNoun_19 (by decide) ?_
      exact bw_ireturn dX11_hasNoun_20 rfl (bw_nb false) ⟨false, rfl, h⟩
    · replace h := h.2 (c)
      refine bw_iconst (v := 1) dX11_hasNoun_15 (by decide) ?_
      refine bw_goto (tgt := 20) dX11_hasNoun_16 (by decide) ?_
      exact bw_ireturn dX11_hasNoun_20 rfl (bw_nb true) ⟨true, rfl, h⟩
theorem fs_X11_hasNoun {E : bw_E} {d : Nat} {w : bw_W} {Q : Bool → bw_W → Prop} {a0 : Int32}   (h : Q (decide ((¬ (a0 < 0)) ∧ (¬ ((gw_i w 18 0) ≤ a0)))) w) : bw_rb E (d + 0) mX11_hasNoun [.ref 0, .int a0] w Q := by
  refine wfX11_hasNoun  ?_
  refine ⟨fun c0 => ?_, fun c0 => ?_⟩
  · (try simp only [c0, if_true, if_false, ite_true, ite_false, decide_true, decide_false, true_and, and_true, false_and, and_false, not_true_eq_false, not_false_eq_true, true_or, or_true, false_or, or_false, or_self, and_self, Classical.not_not] at h) <;> exact h
  · refine ⟨fun c1 => ?_, fun c1 => ?_⟩
    · (try simp only [c0, c1, if_true, if_false, ite_true, ite_false, decide_true, decide_false, true_and, and_true, false_and, and_false, not_true_eq_false, not_false_eq_true, true_or, or_true, false_or, or_false, or_self, and_self, Classical.not_not] at h) <;> exact h
    · (try simp only [c0, c1, if_true, if_false, ite_true, ite_false, decide_true, decide_false, true_and, and_true, false_and, and_false, not_true_eq_false, not_false_eq_true, true_or, or_true, false_or, or_false, or_self, and_self, Classical.not_not] at h) <;> exact h
theorem wfX11_hasMessage {E : bw_E} {d : Nat} {w : bw_W} {Q : Bool → bw_W → Prop} {a0 : Int32}  (h : ((a0 < 0 → Q false w) ∧ (¬ (a0 < 0) → (((gw_i w 18 6) ≤ a0 → Q false w) ∧ (¬ ((gw_i w 18 6) ≤ a0) → Q true w))))) : bw_rb E (d + 0) mX11_hasMessage [.ref 0, .int a0] w Q := by
  refine bw_enter rfl (Nat.le_of_ble_eq_true rfl) ?_
  refine bw_iload_n (i := 1) dX11_hasMessage_0 rfl rfl ?_
  refine bw_if_lt (tgt := 19) dX11_hasMessage_1 (by decide) (fun c => ?_) (fun c => ?_)
  · replace h := h.1 (c)
    refine bw_iconst (v := 0) dX11_hasMessage_19 (by decide) ?_
    exact bw_ireturn dX11_hasMessage_20 rfl (bw_nb false) ⟨false, rfl, h⟩
  · replace h := h.2 (c)
    refine bw_iload_n (i := 1) dX11_hasMessage_4 rfl rfl ?_
    refine bw_aload_n (i := 0) dX11_hasMessage_5 rfl rfl ?_
    refine bw_getr (r := 18) fg_BentWords_44 rfl rfl dX11_hasMessage_6 ?_
    refine bw_geti fg_BentWords_156 rfl dX11_hasMessage_9 ?_
    refine bw_icmp_ge (tgt := 19) dX11_hasMessage_12 (by decide) (fun c => ?_) (fun c => ?_)
    · replace h := h.1 (c)
      refine bw_iconst (v := 0) dX11_hasMessage_19 (by decide) ?_
      exact bw_ireturn dX11_hasMessage_20 rfl (bw_nb false) ⟨false, rfl, h⟩
    · replace h := h.2 (c)
      refine bw_iconst (v := 1) dX11_hasMessage_15 (by decide) ?_
      refine bw_goto (tgt := 20) dX11_hasMessage_16 (by decide) ?_
      exact bw_ireturn dX11_hasMessage_20 rfl (bw_nb true) ⟨true, rfl, h⟩
theorem fs_X11_hasMessage {E : bw_E} {d : Nat} {w : bw_W} {Q : Bool → bw_W → Prop} {a0 : Int32}   (h : Q (decide ((¬ (a0 < 0)) ∧ (¬ ((gw_i w 18 6) ≤ a0)))) w) : bw_rb E (d + 0) mX11_hasMessage [.ref 0, .int a0] w Q := by
  refine wfX11_hasMessage  ?_
  refine ⟨fun c0 => ?_, fun c0 => ?_⟩
  · (try simp only [c0, if_true, if_false, ite_true, ite_false, decide_true, decide_false, true_and, and_true, false_and, and_false, not_true_eq_false, not_false_eq_true, true_or, or_true, false_or, or_false, or_self, and_self, Classical.not_not] at h) <;> exact h
  · refine ⟨fun c1 => ?_, fun c1 => ?_⟩
    · (try simp only [c0, c1, if_true, if_false, ite_true, ite_false, decide_true, decide_false, true_and, and_true, false_and, and_false, not_true_eq_false, not_false_eq_true, true_or, or_true, false_or, or_false, or_self, and_self, Classical.not_not] at h) <;> exact h
    · (try simp only [c0, c1, if_true, if_false, ite_true, ite_false, decide_true, decide_false, true_and, and_true, false_and, and_false, not_true_eq_false, not_false_eq_true, true_or, or_true, false_or, or_false, or_self, and_self, Classical.not_not] at h) <;> exact h
theorem wfX11_hasScript {E : bw_E} {d : Nat} {w : bw_W} {Q : Bool → bw_W → Prop} {a0 : Int32}  (h : ((a0 < 0 → Q false w) ∧ (¬ (a0 < 0) → (((gw_i w 0 7) ≤ a0 → Q false w) ∧ (¬ ((gw_i w 0 7) ≤ a0) → Q true w))))) : bw_rb E (d + 0) mX11_hasScript [.ref 0, .int a0] w Q := by
  refine bw_enter rfl (Nat.le_of_ble_eq_true rfl) ?_
  refine bw_iload_n (i := 1) dX11_hasScript_0 rfl rfl ?_
  refine bw_if_lt (tgt := 16) dX11_hasScript_1 (by decide) (fun c => ?_) (fun c => ?_)
  · replace h := h.1 (c)
    refine bw_iconst (v := 0) dX11_hasScript_16 (by decide) ?_
    exact bw_ireturn dX11_hasScript_17 rfl (bw_nb false) ⟨false, rfl, h⟩
  · replace h := h.2 (c)
    refine bw_iload_n (i := 1) dX11_hasScript_4 rfl rfl ?_
    refine bw_aload_n (i := 0) dX11_hasScript_5 rfl rfl ?_
    refine bw_geti fg_BentWords_121 rfl dX11_hasScript_6 ?_
    refine bw_icmp_ge (tgt := 16) dX11_hasScript_9 (by decide) (fun c => ?_) (fun c => ?_)
    · replace h := h.1 (c)
      refine bw_iconst (v := 0) dX11_hasScript_16 (by decide) ?_
      exact bw_ireturn dX11_hasScript_17 rfl (bw_nb false) ⟨false, rfl, h⟩
    · replace h := h.2 (c)
      refine bw_iconst (v := 1) dX11_hasScript_12 (by decide) ?_
      refine bw_goto (tgt := 17) dX11_hasScript_13 (by decide) ?_
      exact bw_ireturn dX11_hasScript_17 rfl (bw_nb true) ⟨true, rfl, h⟩
theorem fs_X11_hasScript {E : bw_E} {d : Nat} {w : bw_W} {Q : Bool → bw_W → Prop} {a0 : Int32}   (h : Q (decide ((¬ (a0 < 0)) ∧ (¬ ((gw_i w 0 7) ≤ a0)))) w) : bw_rb E (d + 0) mX11_hasScript [.ref 0, .int a0] w Q := by
  refine wfX11_hasScript  ?_
  refine ⟨fun c0 => ?_, fun c0 => ?_⟩
  · (try simp only [c0, if_true, if_false, ite_true, ite_false, decide_true, decide_false, true_and, and_true, false_and, and_false, not_true_eq_false, not_false_eq_true, true_or, or_true, false_or, or_false, or_self, and_self, Classical.not_not] at h) <;> exact h
  · refine ⟨fun c1 => ?_, fun c1 => ?_⟩
    · (try simp only [c0, c1, if_true, if_false, ite_true, ite_false, decide_true, decide_false, true_and, and_true, false_and, and_false, not_true_eq_false, not_false_eq_true, true_or, or_true, false_or, or_false, or_self, and_self, Classical.not_not] at h) <;> exact h
    · (try simp only [c0, c1, if_true, if_false, ite_true, ite_false, decide_true, decide_false, true_and, and_true, false_and, and_false, not_true_eq_false, not_false_eq_true, true_or, or_true, false_or, or_false, or_self, and_self, Classical.not_not] at h) <;> exact h
theorem wfX11_isHole {E : bw_E} {d : Nat} {w : bw_W} {Q : Bool → bw_W → Prop} {a0 : Int32}  (h : ((a0 < 0 → Q false w) ∧ (¬ (a0 < 0) → ((3 ≤ a0 → Q false w) ∧ (¬ (3 ≤ a0) → Q true w))))) : bw_rb E (d + 0) mX11_isHole [.int a0] w Q := by
  refine bw_enter rfl (Nat.le_of_ble_eq_true rfl) ?_
  refine bw_iload_n (i := 0) dX11_isHole_0 rfl rfl ?_
  refine bw_if_lt (tgt := 13) dX11_isHole_1 (by decide) (fun c => ?_) (fun c => ?_)
  · replace h := h.1 (c)
    refine bw_iconst (v := 0) dX11_isHole_13 (by decide) ?_
    exact bw_ireturn dX11_isHole_14 rfl (bw_nb false) ⟨false, rfl, h⟩
  · replace h := h.2 (c)
    refine bw_iload_n (i := 0) dX11_isHole_4 rfl rfl ?_
    refine bw_iconst (v := 3) dX11_isHole_5 (by decide) ?_
    refine bw_icmp_ge (tgt := 13) dX11_isHole_6 (by decide) (fun c => ?_) (fun c => ?_)
    · replace h := h.1 (c)
      refine bw_iconst (v := 0) dX11_isHole_13 (by decide) ?_
      exact bw_ireturn dX11_isHole_14 rfl (bw_nb false) ⟨false, rfl, h⟩
    · replace h := h.2 (c)
      refine bw_iconst (v := 1) dX11_isHole_9 (by decide) ?_
      refine bw_goto (tgt := 14) dX11_isHole_10 (by decide) ?_
      exact bw_ireturn dX11_isHole_14 rfl (bw_nb true) ⟨true, rfl, h⟩
theorem fs_X11_isHole {E : bw_E} {d : Nat} {w : bw_W} {Q : Bool → bw_W → Prop} {a0 : Int32}   (h : Q (decide ((¬ (a0 < 0)) ∧ (¬ (3 ≤ a0)))) w) : bw_rb E (d + 0) mX11_isHole [.int a0] w Q := by
  refine wfX11_isHole  ?_
  refine ⟨fun c0 => ?_, fun c0 => ?_⟩
  · (try simp only [c0, if_true, if_false, ite_true, ite_false, decide_true, decide_false, true_and, and_true, false_and, and_false, not_true_eq_false, not_false_eq_true, true_or, or_true, false_or, or_false, or_self, and_self, Classical.not_not] at h) <;> exact h
  · refine ⟨fun c1 => ?_, fun c1 => ?_⟩
    · (try simp only [c0, c1, if_true, if_false, ite_true, ite_false, decide_true, decide_false, true_and, and_true, false_and, and_false, not_true_eq_false, not_false_eq_true, true_or, or_true, false_or, or_false, or_self, and_self, Classical.not_not] at h) <;> exact h
    · (try simp only [c0, c1, if_true, if_false, ite_true, ite_false, decide_true, decide_false, true_and, and_true, false_and, and_false, not_true_eq_false, not_false_eq_true, true_or, or_true, false_or, or_false, or_self, and_self, Classical.not_not] at h) <;> exact h
theorem wfX11_isSlot {E : bw_E} {d : Nat} {w : bw_W} {Q : Bool → bw_W → Prop} {a0 : Int32} {a1 : Int32}  (h : ((a0 < 0 → Q false w) ∧ (¬ (a0 < 0) → ((4 ≤ a0 → Q false w) ∧ (¬ (4 ≤ a0) → ((a1 < 0 → Q false w) ∧ (¬ (a1 < 0) → ((2 ≤ a1 → Q false w) ∧ (¬ (2 ≤ a1) → Q true w))))))))) : bw_rb E (d + 0) mX11_isSlot [.int a0, .int a1] w Q := by
  refine bw_enter rfl (Nat.le_of_ble_eq_true rfl) ?_
  refine bw_iload_n (i := 0) dX11_isSlot_0 rfl rfl ?_
  refine bw_if_lt (tgt := 22) dX11_isSlot_1 (by decide) (fun c => ?_) (fun c => ?_)
  · replace h := h.1 (c)
    refine bw_iconst (v := 0) dX11_isSlot_22 (by decide) ?_
    exact bw_ireturn dX11_isSlot_23 rfl (bw_nb false) ⟨false, rfl, h⟩
  · replace h := h.2 (c)
    refine bw_iload_n (i := 0) dX11_isSlot_4 rfl rfl ?_
    refine bw_iconst (v := 4) dX11_isSlot_5 (by decide) ?_
    refine bw_icmp_ge (tgt := 22) dX11_isSlot_6 (by decide) (fun c => ?_) (fun c => ?_)
    · replace h := h.1 (c)
      refine bw_iconst (v := 0) dX11_isSlot_22 (by decide) ?_
      exact bw_ireturn dX11_isSlot_23 rfl (bw_nb false) ⟨false, rfl, h⟩
    · replace h := h.2 (c)
      refine bw_iload_n (i := 1) dX11_isSlot_9 rfl rfl ?_
      refine bw_if_lt (tgt := 22) dX11_isSlot_10 (by decide) (fun c => ?_) (fun c => ?_)
      · replace h := h.1 (c)
        refine bw_iconst (v := 0) dX11_isSlot_22 (by decide) ?_
        exact bw_ireturn dX11_isSlot_23 rfl (bw_nb false) ⟨false, rfl, h⟩
      · replace h := h.2 (c)
        refine bw_iload_n (i := 1) dX11_isSlot_13 rfl rfl ?_
        refine bw_iconst (v := 2) dX11_isSlot_14 (by decide) ?_
        refine bw_icmp_ge (tgt := 22) dX11_isSlot_15 (by decide) (fun c => ?_) (fun c => ?_)
        · replace h := h.1 (c)
          refine bw_iconst (v := 0) dX11_isSlot_22 (by decide) ?_
          exact bw_ireturn dX11_isSlot_23 rfl (bw_nb false) ⟨false, rfl, h⟩
        · replace h := h.2 (c)
          refine bw_iconst (v := 1) dX11_isSlot_18 (by decide) ?_
          refine bw_goto (tgt := 23) dX11_isSlot_19 (by decide) ?_
          exact bw_ireturn dX11_isSlot_23 rfl (bw_nb true) ⟨true, rfl, h⟩
theorem fs_X11_isSlot {E : bw_E} {d : Nat} {w : bw_W} {Q : Bool → bw_W → Prop} {a0 : Int32} {a1 : Int32}   (h : Q (decide ((¬ (a0 < 0)) ∧ ((¬ (4 ≤ a0)) ∧ ((¬ (a1 < 0)) ∧ (¬ (2 ≤ a1)))))) w) : bw_rb E (d + 0) mX11_isSlot [.int a0, .int a1] w Q := by
  refine wfX11_isSlot  ?_
  refine ⟨fun c0 => ?_, fun c0 => ?_⟩
  · (try simp only [c0, if_true, if_false, ite_true, ite_false, decide_true, decide_false, true_and, and_true, false_and, and_false, not_true_eq_false, not_false_eq_true, true_or, or_true, false_or, or_false, or_self, and_self, Classical.not_not] at h) <;> exact h
  · refine ⟨fun c1 => ?_, fun c1 => ?_⟩
    · (try simp only [c0, c1, if_true, if_false, ite_true, ite_false, decide_true, decide_false, true_and, and_true, false_and, and_false, not_true_eq_false, not_false_eq_true, true_or, or_true, false_or, or_false, or_self, and_self, Classical.not_not] at h) <;> exact h
    · refine ⟨fun c2 => ?_, fun c2 => ?_⟩
      · (try simp only [c0, c1, c2, if_true, if_false, ite_true, ite_false, decide_true, decide_false, true_and, and_true, false_and, and_false, not_true_eq_false, not_false_eq_true, true_or, or_true, false_or, or_false, or_self, and_self, Classical.not_not] at h) <;> exact h
      · refine ⟨fun c3 => ?_, fun c3 => ?_⟩
        · (try simp only [c0, c1, c2, c3, if_true, if_false, ite_true, ite_false, decide_true, decide_false, true_and, and_true, false_and, and_false, not_true_eq_false, not_false_eq_true, true_or, or_true, false_or, or_false, or_self, and_self, Classical.not_not] at h) <;> exact h
        · (try simp only [c0, c1, c2, c3, if_true, if_false, ite_true, ite_false, decide_true, decide_false, true_and, and_true, false_and, and_false, not_true_eq_false, not_false_eq_true, true_or, or_true, false_or, or_false, or_self, and_self, Classical.not_not] at h) <;> exact h
theorem wfX11_wordsIn_5 {E : bw_E} {d : Nat} {w : bw_W} {Q : Int32 → bw_W → Prop} {tn : Nat} {ta : Nat} {l1 : Int32} {l2 : Int32} {l3 : Int32} {l4 : Int32} (h_ta : bw_sh ta = (2, tn, 0)) (h : ((l2 ≤ l4 → Q l3 w) ∧ (¬ (l2 ≤ l4) → (((nI tn) ≤ l4 → Q l3 w) ∧ (¬ ((nI tn) ≤ l4) → (vp_in l4 tn) ∧
(((gw_l w ta (l4.toNatClampNeg)) = 0 → bw_G E (d + 0) mX11_wordsIn 5 [some (.ref ta), some (.int l1), some (.int l2), some (.int l3), some (.int (l4 + 1))] [] w (bw_qi Q)) ∧ (¬ (gw_l w ta (l4.toNatClampNeg)) = 0 → bw_G E (d + 0) mX11_wordsIn 5 [some (.ref ta), some (.int l1), some (.int l2), some (.int (l3 + 1)), some (.int (l4 + 1))] [] w (bw_qi Q)))))))) : bw_G E (d + 0) mX11_wordsIn 5 [some (.ref ta), some (.int l1), some (.int l2), some (.int l3), some (.int l4)] [] w (bw_qi Q) := by
  refine bw_iload dX11_wordsIn_5 rfl ?_
  refine bw_iload_n (i := 2) dX11_wordsIn_7 rfl rfl ?_
  refine bw_icmp_ge (tgt := 36) dX11_wordsIn_8 (by decide) (fun c => ?_) (fun c => ?_)
  · replace h := h.1 (c)
    refine bw_iload_n (i := 3) dX11_wordsIn_36 rfl rfl ?_
    exact bw_ireturn dX11_wordsIn_37 rfl rfl ⟨_, rfl, h⟩
  · replace h := h.2 (c)
    refine bw_iload dX11_wordsIn_11 rfl ?_
    refine bw_aload_n (i := 0) dX11_wordsIn_13 rfl rfl ?_
    refine bw_alenl (v := (nI tn)) h_ta rfl dX11_wordsIn_14 ?_
    refine bw_icmp_ge (tgt := 36) dX11_wordsIn_15 (by decide) (fun c => ?_) (fun c => ?_)
    · replace h := h.1 (c)
      refine bw_iload_n (i := 3) dX11_wordsIn_36 rfl rfl ?_
      exact bw_ireturn dX11_wordsIn_37 rfl rfl ⟨_, rfl, h⟩
    · replace h := h.2 (c)
      refine bw_aload_n (i := 0) dX11_wordsIn_18 rfl rfl ?_
      refine bw_iload dX11_wordsIn_19 rfl ?_
      obtain ⟨hi1, h⟩ := h
      refine bw_laload h_ta hi1 dX11_wordsIn_21 ?_
      refine bw_lconst (v := 0) dX11_wordsIn_22 rfl ?_
      refine bw_lcmp_eq (tgt := 30) dX11_wordsIn_23 dX11_wordsIn_24 (by decide) (fun c => ?_) (fun c => ?_)
      · replace h := h.1 (c)
        refine bw_iinc (i := 4) (x := l4) (v := (l4 + 1)) (L' := [some (.ref ta), some (.int l1), some (.int l2), some (.int l3), some (.int (l4 + 1))]) dX11_wordsIn_30 rfl rfl (Nat.le_of_ble_eq_true rfl) rfl ?_
        refine bw_goto (tgt := 5) dX11_wordsIn_33 (by decide) ?_
        exact h
      · replace h := h.2 (c)
        refine bw_iinc (i := 3) (x := l3) (v := (l3 + 1)) (L' := [some (.ref ta), some (.int l1), some (.int l2), some (.int (l3 + 1)), some (.int l4)]) dX11_wordsIn_27 rfl rfl (Nat.le_of_ble_eq_true rfl) rfl ?_
        refine bw_iinc (i := 4) (x := l4) (v := (l4 + 1)) (L' := [some (.ref ta), some (.int l1), some (.int l2), some (.int (l3 + 1)), some (.int (l4 + 1))]) dX11_wordsIn_30 rfl rfl (Nat.le_of_ble_eq_true rfl) rfl ?_
        refine bw_goto (tgt := 5) dX11_wordsIn_33 (by decide) ?_
        exact h
theorem wfX11_wordsIn {E : bw_E} {d : Nat} {w : bw_W} {Q : Int32 → bw_W → Prop} {tn : Nat} {ta : Nat} {a1 : Int32} {a2 : Int32} (h_ta : bw_sh ta = (2, tn, 0)) (h : bw_G E (d + 0) mX11_wordsIn 5 [some (.ref ta), some (.int a1), some (.int a2), some (.int 0), some (.int a1)] [] w (bw_qi Q)) : bw_ri E (d + 0) mX11_wordsIn [.ref ta, .int a1, .int a2] w Q := by
  refine bw_enter rfl (Nat.le_of_ble_eq_true rfl) ?_
  refine bw_iconst (v := 0) dX11_wordsIn_0 (by decide) ?_
  refine bw_istore_n (i := 3) (L' := [some (.ref ta), some (.int a1), some (.int a2), some (.int 0), none]) dX11_wordsIn_1 rfl (Nat.le_of_ble_eq_true rfl) rfl ?_
  refine bw_iload_n (i := 1) dX11_wordsIn_2 rfl rfl ?_
  refine bw_istore (i := 4) (L' := [some (.ref ta), some (.int a1), some (.int a2), some (.int 0), some (.int a1)]) dX11_wordsIn_3 (Nat.le_of_ble_eq_true rfl) rfl ?_
  exact h
theorem wfX11_letterOf {E : bw_E} {d : Nat} {w : bw_W} {Q : Int32 → bw_W → Prop} {a0 : Int64} {a1 : Int32}  (h : Q ((((a0.toUInt64 >>> ((8 * a1).toInt64.toUInt64 &&& Int64.toUInt64 63)).toInt64).toInt32) &&& 255) w) : bw_ri E (d + 0) mX11_letterOf [.long a0, .int a1] w Q := by
  refine bw_enter rfl (Nat.le_of_ble_eq_true rfl) ?_
  refine bw_lload_n (i := 0) dX11_letterOf_0 rfl rfl ?_
  refine bw_bipush (v := 8) dX11_letterOf_1 (by decide) ?_
  refine bw_iload_n (i := 2) dX11_letterOf_3 rfl rfl ?_
  refine bw_imul dX11_letterOf_4 ?_
  refine bw_lushr dX11_letterOf_5 ?_
  refine bw_l2i dX11_letterOf_6 ?_
  refine bw_sipush (v := 255) dX11_letterOf_7 (by decide) ?_
  refine bw_iand dX11_letterOf_10 ?_
  exact bw_ireturn dX11_letterOf_11 rfl rfl ⟨_, rfl, h⟩
def vX11_letterOf (a0 : Int64) (a1 : Int32) : Int32 := ((((a0.toUInt64 >>> ((8 * a1).toInt64.toUInt64 &&& Int64.toUInt64 63)).toInt64).toInt32) &&& 255)
theorem fs_X11_letterOf {E : bw_E} {d : Nat} {w : bw_W} {Q : Int32 → bw_W → Prop} {a0 : Int64} {a1 : Int32}   (h : Q (vX11_letterOf a0 a1) w) : bw_ri E (d + 0) mX11_letterOf [.long a0, .int a1] w Q := by
  refine wfX11_letterOf  ?_
  exact h
theorem wfX12_in {E : bw_E} {d : Nat} {w : bw_W} {Q : Bool → bw_W → Prop} {a0 : Int32} {a1 : Int32} {a2 : Int32}  (h : ((a0 < a1 → Q false w) ∧ (¬ (a0 < a1) → ((a2 < a0 → Q false w) ∧ (¬ (a2 < a0) → Q true w))))) : bw_rb E (d + 0) mX12_in [.int a0, .int a1, .int a2] w Q := by
  refine bw_enter rfl (Nat.le_of_ble_eq_true rfl) ?_
  refine bw_iload_n (i := 0) dX12_in_0 rfl rfl ?_
  refine bw_iload_n (i := 1) dX12_in_1 rfl rfl ?_
  refine bw_icmp_lt (tgt := 14) dX12_in_2 (by decide) (fun c => ?_) (fun c => ?_)
  · replace h := h.1 (c)
    refine bw_iconst (v := 0) dX12_in_14 (by decide) ?_
    exact bw_ireturn dX12_in_15 rfl (bw_nb false) ⟨false, rfl, h⟩
  · replace h := h.2 (c)
    refine bw_iload_n (i := 0) dX12_in_5 rfl rfl ?_
    refine bw_iload_n (i := 2) dX12_in_6 rfl rfl ?_
    refine bw_icmp_gt (tgt := 14) dX12_in_7 (by decide) (fun c => ?_) (fun c => ?_)
    · replace h := h.1 (c)
      refine bw_iconst (v := 0) dX12_in_14 (by decide) ?_
      exact bw_ireturn dX12_in_15 rfl (bw_nb false) ⟨false, rfl, h⟩
    · replace h := h.2 (c)
      refine bw_iconst (v := 1) dX12_in_10 (by decide) ?_
      refine bw_goto (tgt := 15) dX12_in_11 (by decide) ?_
      exact bw_ireturn dX12_in_15 rfl (bw_nb true) ⟨true, rfl, h⟩
theorem fs_X12_in {E : bw_E} {d : Nat} {w : bw_W} {Q : Bool → bw_W → Prop} {a0 : Int32} {a1 : Int32} {a2 : Int32}   (h : Q (decide ((¬ (a0 < a1)) ∧ (¬ (a2 < a0)))) w) : bw_rb E (d + 0) mX12_in [.int a0, .int a1, .int a2] w Q := by
  refine wfX12_in  ?_
  refine ⟨fun c0 => ?_, fun c0 => ?_⟩
  · (try simp only [c0, if_true, if_false, ite_true, ite_false, decide_true, decide_false, true_and, and_true, false_and, and_false, not_true_eq_false, not_false_eq_true, true_or, or_true, false_or, or_false, or_self, and_self, Classical.not_not] at h) <;> exact h
  · refine ⟨fun c1 => ?_, fun c1 => ?_⟩
    · (try simp only [c0, c1, if_true, if_false, ite_true, ite_false, decide_true, decide_false, true_and, and_true, false_and, and_false, not_true_eq_false, not_false_eq_true, true_or, or_true, false_or, or_false, or_self, and_self, Classical.not_not] at h) <;> exact h
    · (try simp only [c0, c1, if_true, if_false, ite_true, ite_false, decide_true, decide_false, true_and, and_true, false_and, and_false, not_true_eq_false, not_false_eq_true, true_or, or_true, false_or, or_false, or_self, and_self, Classical.not_not] at h) <;> exact h
theorem wfX12_has {E : bw_E} {d : Nat} {w : bw_W} {Q : Bool → bw_W → Prop} {a0 : Int32} {a1 : Int32}  (h : ((¬ ((a0 >>> (a1 &&& 31)) &&& 1) = 1 → Q false w) ∧ (((a0 >>> (a1 &&& 31)) &&& 1) = 1 → Q true w))) : bw_rb E (d + 0) mX12_has [.int a0, .int a1] w Q := by
  refine bw_enter rfl (Nat.le_of_ble_eq_true rfl) ?_
  refine bw_iload_n (i := 0) dX12_has_0 rfl rfl ?_
  refine bw_iload_n (i := 1) dX12_has_1 rfl rfl ?_
  refine bw_ishr dX12_has_2 ?_
  refine bw_iconst (v := 1) dX12_has_3 (by decide) ?_
  refine bw_iand dX12_has_4 ?_
  refine bw_iconst (v := 1) dX12_has_5 (by decide) ?_
  refine bw_icmp_ne (tgt := 13) dX12_has_6 (by decide) (fun c => ?_) (fun c => ?_)
  · replace h := h.1 (c)
    refine bw_iconst (v := 0) dX12_has_13 (by decide) ?_
    exact bw_ireturn dX12_has_14 rfl (bw_nb false) ⟨false, rfl, h⟩
  · replace h := h.2 (c)
    refine bw_iconst (v := 1) dX12_has_9 (by decide) ?_
    refine bw_goto (tgt := 14) dX12_has_10 (by decide) ?_
    exact bw_ireturn dX12_has_14 rfl (bw_nb true) ⟨true, rfl, h⟩
theorem fs_X12_has {E : bw_E} {d : Nat} {w : bw_W} {Q : Bool → bw_W → Prop} {a0 : Int32} {a1 : Int32}   (h : Q (decide ((((a0 >>> (a1 &&& 31)) &&& 1) = 1))) w) : bw_rb E (d + 0) mX12_has [.int a0, .int a1] w Q := by
  refine wfX12_has  ?_
  refine ⟨fun c0 => ?_, fun c0 => ?_⟩
  · (try simp only [c0, if_true, if_false, ite_true, ite_false, decide_true, decide_false, true_and, and_true, false_and, and_false, not_true_eq_false, not_false_eq_true, true_or, or_true, false_or, or_false, or_self, and_self, Classical.not_not] at h) <;> exact h
  · (try simp only [c0, if_true, if_false, ite_true, ite_false, decide_true, decide_false, true_and, and_true, false_and, and_false, not_true_eq_false, not_false_eq_true, true_or, or_true, false_or, or_false, or_self, and_self, Classical.not_not] at h) <;> exact h
theorem wfX12_bits_4 {E : bw_E} {d : Nat} {w : bw_W} {Q : Int32 → bw_W → Prop} {l0 : Int32} {l1 : Int32} {l2 : Int32}  (h : ((8 ≤ l2 → Q l1 w) ∧ (¬ (8 ≤ l2) → bw_G E (d + 0) mX12_bits 4 [some (.int l0), some (.int (l1 + ((l0 >>> (l2 &&& 31)) &&& 1))), some (.int (l2 + 1))] [] w (bw_qi Q)))) : bw_G E (d + 0) mX12_bits 4 [some (.int l0), some (.int l1), some (.int l2)] [] w (bw_qi Q) := by
  refine bw_iload_n (i := 2) dX12_bits_4 rfl rfl ?_
  refine bw_bipush (v := 8) dX12_bits_5 (by decide) ?_
  refine bw_icmp_ge (tgt := 24) dX12_bits_7 (by decide) (fun c => ?_) (fun c => ?_)
  · replace h := h.1 (c)
    refine bw_iload_n (i := 1) dX12_bits_24 rfl rfl ?_
    exact bw_ireturn dX12_bits_25 rfl rfl ⟨_, rfl, h⟩
  · replace h := h.2 (c)
    refine bw_iload_n (i := 1) dX12_bits_10 rfl rfl ?_
    refine bw_iload_n (i := 0) dX12_bits_11 rfl rfl ?_
    refine bw_iload_n (i := 2) dX12_bits_12 rfl rfl ?_
    refine bw_ishr dX12_bits_13 ?_
    refine bw_iconst (v := 1) dX12_bits_14 (by decide) ?_
    refine bw_iand dX12_bits_15 ?_
    refine bw_iadd dX12_bits_16 ?_
    refine bw_istore_n (i := 1) (L' := [some (.int l0), some (.int (l1 + ((l0 >>> (l2 &&& 31)) &&& 1))), some (.int l2)]) dX12_bits_17 rfl (Nat.le_of_ble_eq_true rfl) rfl ?_
    refine bw_iinc (i := 2) (x := l2) (v := (l2 + 1)) (L' := [some (.int l0), some (.int (l1 + ((l0 >>> (l2 &&& 31)) &&& 1))), some (.int (l2 + 1))]) dX12_bits_18 rfl rfl (Nat.le_of_ble_eq_true rfl) rfl ?_
    refine bw_goto (tgt := 4) dX12_bits_21 (by decide) ?_
    exact h
theorem wfX12_bits {E : bw_E} {d : Nat} {w : bw_W} {Q : Int32 → bw_W → Prop} {a0 : Int32}  (h : bw_G E (d + 0) mX12_bits 4 [some (.int a0), some (.int 0), some (.int 0)] [] w (bw_qi Q)) : bw_ri E (d + 0) mX12_bits [.int a0] w Q := by
  refine bw_enter rfl (Nat.le_of_ble_eq_true rfl) ?_
  refine bw_iconst (v := 0) dX12_bits_0 (by decide) ?_
  refine bw_istore_n (i := 1) (L' := [some (.int a0), some (.int 0), none]) dX12_bits_1 rfl (Nat.le_of_ble_eq_true rfl) rfl ?_
  refine bw_iconst (v := 0) dX12_bits_2 (by decide) ?_
  refine bw_istore_n (i := 2) (L' := [some (.int a0), some (.int 0), some (.int 0)]) dX12_bits_3 rfl (Nat.le_of_ble_eq_true rfl) rfl ?_
  exact h
theorem wfX12_thrown {E : bw_E} {d : Nat} {w : bw_W} {Q : Int32 → bw_W → Prop}   (h : Q (gw_i w 50 0) w) : bw_ri E (d + 0) mX12_thrown [.ref 50] w Q := by
  refine bw_enter rfl (Nat.le_of_ble_eq_true rfl) ?_
  refine bw_aload_n (i := 0) dX12_thrown_0 rfl rfl ?_
  refine bw_geti fg_BentWordsModel_89 rfl dX12_thrown_1 ?_
  exact bw_ireturn dX12_thrown_4 rfl rfl ⟨_, rfl, h⟩
theorem fs_X12_thrown {E : bw_E} {d : Nat} {w : bw_W} {Q : Int32 → bw_W → Prop}    (h : Q (gw_i w 50 0) w) : bw_ri E (d + 0) mX12_thrown [.ref 50] w Q := by
  refine wfX12_thrown  ?_
  exact h
theorem wfX12_byteOf {E : bw_E} {d : Nat} {w : bw_W} {Q : Int32 → bw_W → Prop} {a0 : Int32} {a1 : Int32} {a2 : Int32} {a3 : Int32} {a4 : Int32} {a5 : Int32}  (h : ((4 ≤ a5 → ((8 ≤ a5 → ((12 ≤ a5 → ((16 ≤ a5 → Q ((a4 >>> ((24 - (8 * (a5 - a5 / 4 * 4))) &&& 31)) &&& 255) w) ∧ (¬ (16 ≤ a5) → Q ((a3 >>> ((24 - (8 * (a5 - a5 / 4 * 4))) &&& 31)) &&& 255) w))) ∧ (¬ (12 ≤ a5) → Q ((a2 >>> ((24 - (8 * (a5 - a5 / 4 * 4))) &&& 31)) &&& 255) w))) ∧ (¬ (8 ≤ a5) → Q ((a1 >>> ((24 - (8 * (a5 - a5 / 4 * 4))) &&& 31)) &&& 255) w))) ∧ (¬ (4 ≤ a5) → Q ((a0 >>> ((24 - (8 * (a5 - a5 / 4 * 4))) &&& 31)) &&& 255) w))) : bw_ri E (d + 0) mX12_byteOf [.int a0, .int a1, .int a2, .int a3, .int a4, .int a5] w Q := by
  refine bw_enter rfl (Nat.le_of_ble_eq_true rfl) ?_
  refine bw_iload dX12_byteOf_0 rfl ?_
  refine bw_iconst (v := 4) dX12_byteOf_2 (by decide) ?_
  refine bw_icmp_ge (tgt := 10) dX12_byteOf_3 (by decide) (fun c => ?_) (fun c => ?_)
  · replace h := h.1 (c)
    refine bw_iload dX12_byteOf_10 rfl ?_
    refine bw_bipush (v := 8) dX12_byteOf_12 (by decide) ?_
    refine bw_icmp_ge (tgt := 21) dX12_byteOf_14 (by decide) (fun c => ?_) (fun c => ?_)
    · replace h := h.1 (c)
      refine bw_iload dX12_byteOf_21 rfl ?_
      refine bw_bipush (v := 12) dX12_byteOf_23 (by decide) ?_
      refine bw_icmp_ge (tgt := 32) dX12_byteOf_25 (by decide) (fun c => ?_) (fun c => ?_)
      · replace h := h.1 (c)
        refine bw_iload dX12_byteOf_32 rfl ?_
        refine bw_bipush (v := 16) dX12_byteOf_34 (by decide) ?_
        refine bw_icmp_ge (tgt := 43) dX12_byteOf_36 (by decide) (fun c => ?_) (fun c => ?_)
        · replace h := h.1 (c)
          refine bw_iload dX12_byteOf_43 rfl ?_
          refine bw_istore (i := 6) (L' := [some (.int a0), some (.int a1), some (.int a2), some (.int a3), some (.int a4), some (.int a5), some (.int a4)]) dX12_byteOf_45 (Nat.le_of_ble_eq_true rfl) rfl ?_
          refine bw_iload dX12_byteOf_47 rfl ?_
          refine bw_bipush (v := 24) dX12_byteOf_49 (by decide) ?_
          refine bw_bipush (v := 8) dX12_byteOf_51 (by decide) ?_
          refine bw_iload dX12_byteOf_53 rfl ?_
          refine bw_iconst (v := 4) dX12_byteOf_55 (by decide) ?_
          refine bw_irem dX12_byteOf_56 (by decide) ?_
          refine bw_imul dX12_byteOf_57 ?_
          refine bw_isub dX12_byteOf_58 ?_
          refine bw_ishr dX12_byteOf_59 ?_
          refine bw_sipush (v := 255) dX12_byteOf_60 (by decide) ?_
          refine bw_iand dX12_byteOf_63 ?_
          exact bw_ireturn dX12_byteOf_64 rfl rfl ⟨_, rfl, h⟩
        · replace h := h.2 (c)
          refine bw_iload_n (i := 3) dX12_byteOf_39 rfl rfl ?_
          refine bw_goto (tgt := 45) dX12_byteOf_40 (by decide) ?_
          refine bw_istore (i := 6) (L' := [some (.int a0), some (.int a1), some (.int a2), some (.int a3), some (.int a4), some (.int a5), some (.int a3)]) dX12_byteOf_45 (Nat.le_of_ble_eq_true rfl) rfl ?_
          refine bw_iload dX12_byteOf_47 rfl ?_
          refine bw_bipush (v := 24) dX12_byteOf_49 (by decide) ?_
          refine bw_bipush (v := 8) dX12_byteOf_51 (by decide) ?_
          refine bw_iload dX12_byteOf_53 rfl ?_
          refine bw_iconst (v := 4) dX12_byteOf_55 (by decide) ?_
          refine bw_irem dX12_byteOf_56 (by decide) ?_
          refine bw_imul dX12_byteOf_57 ?_
          refine bw_isub dX12_byteOf_58 ?_
          refine bw_ishr dX12_byteOf_59 ?_
          refine bw_sipush (v := 255) dX12_byteOf_60 (by decide) ?_
          refine bw_iand dX12_byteOf_63 ?_
          exact bw_ireturn dX12_byteOf_64 rfl rfl ⟨_, rfl, h⟩
      · replace h := h.2 (c)
        refine bw_iload_n (i := 2) dX12_byteOf_28 rfl rfl ?_
        refine bw_goto (tgt := 45) dX12_byteOf_29 (by decide) ?_
        refine bw_istore (i := 6) (L' := [some (.int a0), some (.int a1), some (.int a2), some (.int a3), some (.int a4), some (.int a5), some (.int a2)]) dX12_byteOf_45 (Nat.le_of_ble_eq_true rfl) rfl ?_
        refine bw_iload dX12_byteOf_47 rfl ?_
        refine bw_bipush (v := 24) dX12_byteOf_49 (by decide) ?_
        refine bw_bipush (v := 8) dX12_byteOf_51 (by decide) ?_
        refine bw_iload dX12_byteOf_53 rfl ?_
        refine bw_iconst (v := 4) dX12_byteOf_55 (by decide) ?_
        refine bw_irem dX12_byteOf_56 (by decide) ?_
        refine bw_imul dX12_byteOf_57 ?_
        refine bw_isub dX12_byteOf_58 ?_
        refine bw_ishr dX12_byteOf_59 ?_
        refine bw_sipush (v := 255) dX12_byteOf_60 (by decide) ?_
        refine bw_iand dX12_byteOf_63 ?_
        exact bw_ireturn dX12_byteOf_64 rfl rfl ⟨_, rfl, h⟩
    · replace h := h.2 (c)
      refine bw_iload_n (i := 1) dX12_byteOf_17 rfl rfl ?_
      refine bw_goto (tgt := 45) dX12_byteOf_18 (by decide) ?_
      refine bw_istore (i := 6) (L' := [some (.int a0), some (.int a1), some (.int a2), some (.int a3), some (.int a4), some (.int a5), some (.int a1)]) dX12_byteOf_45 (Nat.le_of_ble_eq_true rfl) rfl ?_
      refine bw_iload dX12_byteOf_47 rfl ?_
      refine bw_bipush (v := 24) dX12_byteOf_49 (by decide) ?_
      refine bw_bipush (v := 8) dX12_byteOf_51 (by decide) ?_
      refine bw_iload dX12_byteOf_53 rfl ?_
      refine bw_iconst (v := 4) dX12_byteOf_55 (by decide) ?_
      refine bw_irem dX12_byteOf_56 (by decide) ?_
      refine bw_imul dX12_byteOf_57 ?_
      refine bw_isub dX12_byteOf_58 ?_
      refine bw_ishr dX12_byteOf_59 ?_
      refine bw_sipush (v := 255) dX12_byteOf_60 (by decide) ?_
      refine bw_iand dX12_byteOf_63 ?_
      exact bw_ireturn dX12_byteOf_64 rfl rfl ⟨_, rfl, h⟩
  · replace h := h.2 (c)
    refine bw_iload_n (i := 0) dX12_byteOf_6 rfl rfl ?_
    refine bw_goto (tgt := 45) dX12_byteOf_7 (by decide) ?_
    refine bw_istore (i := 6) (L' := [some (.int a0), some (.int a1), some (.int a2), some (.int a3), some (.int a4), some (.int a5), some (.int a0)]) dX12_byteOf_45 (Nat.le_of_ble_eq_true rfl) rfl ?_
    refine bw_iload dX12_byteOf_47 rfl ?_
    refine bw_bipush (v := 24) dX12_byteOf_49 (by decide) ?_
    refine bw_bipush (v := 8) dX12_byteOf_51 (by decide) ?_
    refine bw_iload dX12_byteOf_53 rfl ?_
    refine bw_iconst (v := 4) dX12_byteOf_55 (by decide) ?_
    refine bw_irem dX12_byteOf_56 (by decide) ?_
    refine bw_imul dX12_byteOf_57 ?_
    refine bw_isub dX12_byteOf_58 ?_
    refine bw_ishr dX12_byteOf_59 ?_
    refine bw_sipush (v := 255) dX12_byteOf_60 (by decide) ?_
    refine bw_iand dX12_byteOf_63 ?_
    exact bw_ireturn dX12_byteOf_64 rfl rfl ⟨_, rfl, h⟩
def vX12_byteOf (a0 : Int32) (a1 : Int32) (a2 : Int32) (a3 : Int32) (a4 : Int32) (a5 : Int32) : Int32 := (if 4 ≤ a5 then (if 8 ≤ a5 then (if 12 ≤ a5 then (if 16 ≤ a5 then ((a4 >>> ((24 - (8 * (a5 - a5 / 4 * 4))) &&& 31)) &&& 255) else ((a3 >>> ((24 - (8 * (a5 - a5 / 4 * 4))) &&& 31)) &&& 255)) else ((a2 >>> ((24 - (8 * (a5 - a5 / 4 * 4))) &&& 31)) &&& 255)) else ((a1 >>> ((24 - (8 * (a5 - a5 / 4 * 4))) &&& 31)) &&& 255)) else ((a0 >>> ((24 - (8 * (a5 - a5 / 4 * 4))) &&& 31)) &&& 255))
theorem fs_X12_byteOf {E : bw_E} {d : Nat} {w : bw_W} {Q : Int32 → bw_W → Prop} {a0 : Int32} {a1 : Int32} {a2 : Int32} {a3 : Int32} {a4 : Int32} {a5 : Int32}   (h : Q (vX12_byteOf a0 a1 a2 a3 a4 a5) w) : bw_ri E (d + 0) mX12_byteOf [.int a0, .int a1, .int a2, .int a3, .int a4, .int a5] w Q := by
  refine wfX12_byteOf  ?_
  refine ⟨fun c0 => ?_, fun c0 => ?_⟩
  · refine ⟨fun c1 => ?_, fun c1 => ?_⟩
    · refine ⟨fun c2 => ?_, fun c2 => ?_⟩
      · refine ⟨fun c3 => ?_, fun c3 => ?_⟩
        · (try simp only [vX12_byteOf, c0, c1, c2, c3, if_true, if_false, ite_true, ite_false, decide_true, decide_false, true_and, and_true, false_and, and_false, not_true_eq_false, not_false_eq_true, true_or, or_true, false_or, or_false, or_self, and_self, Classical.not_not] at h) <;> exact h
        · (try simp only [vX12_byteOf, c0, c1, c2, c3, if_true, if_false, ite_true, ite_false, decide_true, decide_false, true_and, and_true, false_and, and_false, not_true_eq_false, not_false_eq_true, true_or, or_true, false_or, or_false, or_self, and_self, Classical.not_not] at h) <;> exact h
      · (try simp only [vX12_byteOf, c0, c1, c2, if_true, if_false, ite_true, ite_false, decide_true, decide_false, true_and, and_true, false_and, and_false, not_true_eq_false, not_false_eq_true, true_or, or_true, false_or, or_false, or_self, and_self, Classical.not_not] at h) <;> exact h
    · (try simp only [vX12_byteOf, c0, c1, if_true, if_false, ite_true, ite_false, decide_true, decide_false, true_and, and_true, false_and, and_false, not_true_eq_false, not_false_eq_true, true_or, or_true, false_or, or_false, or_self, and_self, Classical.not_not] at h) <;> exact h
  · (try simp only [vX12_byteOf, c0, if_true, if_false, ite_true, ite_false, decide_true, decide_false, true_and, and_true, false_and, and_false, not_true_eq_false, not_false_eq_true, true_or, or_true, false_or, or_false, or_self, and_self, Classical.not_not] at h) <;> exact h
theorem wfX12_here {E : bw_E} {d : Nat} {w : bw_W} {Q : Int32 → bw_W → Prop}   (h : (((gw_i w 50 2) ≤ (gw_i w 50 3) → Q (-1) w) ∧ (¬ ((gw_i w 50 2) ≤ (gw_i w 50 3)) → (vp_in (gw_i w 50 3) 480) ∧
Q (gw_i w 51 ((gw_i w 50 3).toNatClampNeg)) w))) : bw_ri E (d + 0) mX12_here [.ref 50] w Q := by
  refine bw_enter rfl (Nat.le_of_ble_eq_true rfl) ?_
  refine bw_aload_n (i := 0) dX12_here_0 rfl rfl ?_
  refine bw_geti fg_BentWordsModel_104 rfl dX12_here_1 ?_
  refine bw_aload_n (i := 0) dX12_here_4 rfl rfl ?_
  refine bw_geti fg_BentWordsModel_97 rfl dX12_here_5 ?_
  refine bw_icmp_ge (tgt := 23) dX12_here_8 (by decide) (fun c => ?_) (fun c => ?_)
  · replace h := h.1 (c)
    refine bw_iconst (v := (-1)) dX12_here_23 (by decide) ?_
    exact bw_ireturn dX12_here_24 rfl rfl ⟨_, rfl, h⟩
  · replace h := h.2 (c)
    refine bw_aload_n (i := 0) dX12_here_11 rfl rfl ?_
    refine bw_getr (r := 51) fg_BentWordsModel_9 rfl rfl dX12_here_12 ?_
    refine bw_aload_n (i := 0) dX12_here_15 rfl rfl ?_
    refine bw_geti fg_BentWordsModel_104 rfl dX12_here_16 ?_
    obtain ⟨hi1, h⟩ := h
    refine bw_iaload rfl hi1 dX12_here_19 ?_
    refine bw_goto (tgt := 24) dX12_here_20 (by decide) ?_
    exact bw_ireturn dX12_here_24 rfl rfl ⟨_, rfl, h⟩
def vX12_here (w : bw_W)  : Int32 := (if (gw_i w 50 2) ≤ (gw_i w 50 3) then (-1) else (gw_i w 51 ((gw_i w 50 3).toNatClampNeg)))
theorem fs_X12_here {E : bw_E} {d : Nat} {w : bw_W} {Q : Int32 → bw_W → Prop}   (hc0 : (¬ ((gw_i w 50 2) ≤ (gw_i w 50 3))) → (vp_in (gw_i w 50 3) 480)) (h : Q (vX12_here w ) w) : bw_ri E (d + 0) mX12_here [.ref 50] w Q := by
  refine wfX12_here  ?_
  refine ⟨fun c0 => ?_, fun c0 => ?_⟩
  · (try simp only [vX12_here, c0, if_true, if_false, ite_true, ite_false, decide_true, decide_false, true_and, and_true, false_and, and_false, not_true_eq_false, not_false_eq_true, true_or, or_true, false_or, or_false, or_self, and_self, Classical.not_not] at h) <;> exact h
  · refine ⟨hc0 c0, ?_⟩
    (try simp only [vX12_here, c0, if_true, if_false, ite_true, ite_false, decide_true, decide_false, true_and, and_true, false_and, and_false, not_true_eq_false, not_false_eq_true, true_or, or_true, false_or, or_false, or_self, and_self, Classical.not_not] at h) <;> exact h
theorem wfX12_isDigit {E : bw_E} {d : Nat} {w : bw_W} {Q : Bool → bw_W → Prop} {a0 : Int32}  (h : ((a0 < 48 → Q false w) ∧ (¬ (a0 < 48) → ((57 < a0 → Q false w) ∧ (¬ (57 < a0) → Q true w))))) : bw_rb E (d + 0) mX12_isDigit [.int a0] w Q := by
  refine bw_enter rfl (Nat.le_of_ble_eq_true rfl) ?_
  refine bw_iload_n (i := 0) dX12_isDigit_0 rfl rfl ?_
  refine bw_bipush (v := 48) dX12_isDigit_1 (by decide) ?_
  refine bw_icmp_lt (tgt := 16) dX12_isDigit_3 (by decide) (fun c => ?_) (fun c => ?_)
  · replace h := h.1 (c)
    refine bw_iconst (v := 0) dX12_isDigit_16 (by decide) ?_
    exact bw_ireturn dX12_isDigit_17 rfl (bw_nb false) ⟨false, rfl, h⟩
  · replace h := h.2 (c)
    refine bw_iload_n (i := 0) dX12_isDigit_6 rfl rfl ?_
    refine bw_bipush (v := 57) dX12_isDigit_7 (by decide) ?_
    refine bw_icmp_gt (tgt := 16) dX12_isDigit_9 (by decide) (fun c => ?_) (fun c => ?_)
    · replace h := h.1 (c)
      refine bw_iconst (v := 0) dX12_isDigit_16 (by decide) ?_
      exact bw_ireturn dX12_isDigit_17 rfl (bw_nb false) ⟨false, rfl, h⟩
    · replace h := h.2 (c)
      refine bw_iconst (v := 1) dX12_isDigit_12 (by decide) ?_
      refine bw_goto (tgt := 17) dX12_isDigit_13 (by decide) ?_
      exact bw_ireturn dX12_isDigit_17 rfl (bw_nb true) ⟨true, rfl, h⟩
theorem fs_X12_isDigit {E : bw_E} {d : Nat} {w : bw_W} {Q : Bool → bw_W → Prop} {a0 : Int32}   (h : Q (decide ((¬ (a0 < 48)) ∧ (¬ (57 < a0)))) w) : bw_rb E (d + 0) mX12_isDigit [.int a0] w Q := by
  refine wfX12_isDigit  ?_
  refine ⟨fun c0 => ?_, fun c0 => ?_⟩
  · (try simp only [c0, if_true, if_false, ite_true, ite_false, decide_true, decide_false, true_and, and_true, false_and, and_false, not_true_eq_false, not_false_eq_true, true_or, or_true, false_or, or_false, or_self, and_self, Classical.not_not] at h) <;> exact h
  · refine ⟨fun c1 => ?_, fun c1 => ?_⟩
    · (try simp only [c0, c1, if_true, if_false, ite_true, ite_false, decide_true, decide_false, true_and, and_true, false_and, and_false, not_true_eq_false, not_false_eq_true, true_or, or_true, false_or, or_false, or_self, and_self, Classical.not_not] at h) <;> exact h
    · (try simp only [c0, c1, if_true, if_false, ite_true, ite_false, decide_true, decide_false, true_and, and_true, false_and, and_false, not_true_eq_false, not_false_eq_true, true_or, or_true, false_or, or_false, or_self, and_self, Classical.not_not] at h) <;> exact h
theorem wfX12_isLetter {E : bw_E} {d : Nat} {w : bw_W} {Q : Bool → bw_W → Prop} {a0 : Int32}  (h : ((a0 < 97 → Q false w) ∧ (¬ (a0 < 97) → ((122 < a0 → Q false w) ∧ (¬ (122 < a0) → Q true w))))) : bw_rb E (d + 0) mX12_isLetter [.int a0] w Q := by
  refine bw_enter rfl (Nat.le_of_ble_eq_true rfl) ?_
  refine bw_iload_n (i := 0) dX12_isLetter_0 rfl rfl ?_
  refine bw_bipush (v := 97) dX12_isLetter_1 (by decide) ?_
  refine bw_icmp_lt (tgt := 16) dX12_isLetter_3 (by decide) (fun c => ?_) (fun c => ?_)
  · replace h := h.1 (c)
    refine bw_iconst (v := 0) dX12_isLetter_16 (by decide) ?_
    exact bw_ireturn dX12_isLetter_17 rfl (bw_nb false) ⟨false, rfl, h⟩
  · replace h := h.2 (c)
    refine bw_iload_n (i := 0) dX12_isLetter_6 rfl rfl ?_
    refine bw_bipush (v := 122) dX12_isLetter_7 (by decide) ?_
    refine bw_icmp_gt (tgt := 16) dX12_isLetter_9 (by decide) (fun c => ?_) (fun c => ?_)
    · replace h := h.1 (c)
      refine bw_iconst (v := 0) dX12_isLetter_16 (by decide) ?_
      exact bw_ireturn dX12_isLetter_17 rfl (bw_nb false) ⟨false, rfl, h⟩
    · replace h := h.2 (c)
      refine bw_iconst (v := 1) dX12_isLetter_12 (by decide) ?_
      refine bw_goto (tgt := 17) dX12_isLetter_13 (by decide) ?_
      exact bw_ireturn dX12_isLetter_17 rfl (bw_nb true) ⟨true, rfl, h⟩
theorem fs_X12_isLetter {E : bw_E} {d : Nat} {w : bw_W} {Q : Bool → bw_W → Prop} {a0 : Int32}   (h : Q (decide ((¬ (a0 < 97)) ∧ (¬ (122 < a0)))) w) : bw_rb E (d + 0) mX12_isLetter [.int a0] w Q := by
  refine wfX12_isLetter  ?_
  refine ⟨fun c0 => ?_, fun c0 => ?_⟩
  · (try simp only [c0, if_true, if_false, ite_true, ite_false, decide_true, decide_false, true_and, and_true, false_and, and_false, not_true_eq_false, not_false_eq_true, true_or, or_true, false_or, or_false, or_self, and_self, Classical.not_not] at h) <;> exact h
  · refine ⟨fun c1 => ?_, fun c1 => ?_⟩
    · (try simp only [c0, c1, if_true, if_false, ite_true, ite_false, decide_true, decide_false, true_and, and_true, false_and, and_false, not_true_eq_false, not_false_eq_true, true_or, or_true, false_or, or_false, or_self, and_self, Classical.not_not] at h) <;> exact h
    · (try simp only [c0, c1, if_true, if_false, ite_true, ite_false, decide_true, decide_false, true_and, and_true, false_and, and_false, not_true_eq_false, not_false_eq_true, true_or, or_true, false_or, or_false, or_self, and_self, Classical.not_not] at h) <;> exact h
theorem wfX12_badAt {E : bw_E} {d : Nat} {w : bw_W} {Q : bw_W → Prop} {a0 : Int32}  (h : ((¬ (gw_i w 50 10) = (-1) → Q (sw_i w 50 10 (gw_i w 50 10))) ∧ ((gw_i w 50 10) = (-1) → Q (sw_i w 50 10 a0)))) : bw_rv E (d + 0) mX12_badAt [.ref 50, .int a0] w Q := by
  refine bw_enter rfl (Nat.le_of_ble_eq_true rfl) ?_
  refine bw_aload_n (i := 0) dX12_badAt_0 rfl rfl ?_
  refine bw_aload_n (i := 0) dX12_badAt_1 rfl rfl ?_
  refine bw_geti fg_BentWordsModel_150 rfl dX12_badAt_2 ?_
  refine bw_iconst (v := (-1)) dX12_badAt_5 (by decide) ?_
  refine bw_icmp_ne (tgt := 13) dX12_badAt_6 (by decide) (fun c => ?_) (fun c => ?_)
  · replace h := h.1 (c)
    refine bw_aload_n (i := 0) dX12_badAt_13 rfl rfl ?_
    refine bw_geti fg_BentWordsModel_150 rfl dX12_badAt_14 ?_
    refine bw_puti fp_BentWordsModel_150 rfl rfl rfl dX12_badAt_17 ?_
    exact bw_return dX12_badAt_20 rfl ⟨rfl, h⟩
  · replace h := h.2 (c)
    refine bw_iload_n (i := 1) dX12_badAt_9 rfl rfl ?_
    refine bw_goto (tgt := 17) dX12_badAt_10 (by decide) ?_
    refine bw_puti fp_BentWordsModel_150 rfl rfl rfl dX12_badAt_17 ?_
    exact bw_return dX12_badAt_20 rfl ⟨rfl, h⟩
theorem fs_X12_badAt {E : bw_E} {d : Nat} {w : bw_W} {Q : bw_W → Prop} {a0 : Int32}   (h : Q (sw_i w 50 10 (if ¬ (gw_i w 50 10) = (-1) then (gw_i w 50 10) else a0))) : bw_rv E (d + 0) mX12_badAt [.ref 50, .int a0] w Q := by
  refine wfX12_badAt  ?_
  refine ⟨fun c0 => ?_, fun c0 => ?_⟩
  · (try simp only [c0, if_true, if_false, ite_true, ite_false, decide_true, decide_false, true_and, and_true, false_and, and_false, not_true_eq_false, not_false_eq_true, true_or, or_true, false_or, or_false, or_self, and_self, Classical.not_not] at h) <;> exact h
  · (try simp only [c0, if_true, if_false, ite_true, ite_false, decide_true, decide_false, true_and, and_true, false_and, and_false, not_true_eq_false, not_false_eq_true, true_or, or_true, false_or, or_false, or_self, and_self, Classical.not_not] at h) <;> exact h
theorem wfX12_isSign {E : bw_E} {d : Nat} {w : bw_W} {Q : Bool → bw_W → Prop} {a0 : Int32}  (h : ((¬ (gw_i w 50 10) = (-1) → Q false w) ∧ ((gw_i w 50 10) = (-1) → ((¬ (gw_i w 50 4) = 3 → Q false w) ∧ ((gw_i w 50 4) = 3 → ((¬ (gw_i w 50 8) = a0 → Q false w) ∧ ((gw_i w 50 8) = a0 → Q true w))))))) : bw_rb E (d + 0) mX12_isSign [.ref 50, .int a0] w Q := by
  refine bw_enter rfl (Nat.le_of_ble_eq_true rfl) ?_
  refine bw_aload_n (i := 0) dX12_isSign_0 rfl rfl ?_
  refine bw_geti fg_BentWordsModel_150 rfl dX12_isSign_1 ?_
  refine bw_iconst (v := (-1)) dX12_isSign_4 (by decide) ?_
  refine bw_icmp_ne (tgt := 28) dX12_isSign_5 (by decide) (fun c => ?_) (fun c => ?_)
  · replace h := h.1 (c)
    refine bw_iconst (v := 0) dX12_isSign_28 (by decide) ?_
    exact bw_ireturn dX12_isSign_29 rfl (bw_nb false) ⟨false, rfl, h⟩
  · replace h := h.2 (c)
    refine bw_aload_n (i := 0) dX12_isSign_8 rfl rfl ?_
    refine bw_geti fg_BentWordsModel_126 rfl dX12_isSign_9 ?_
    refine bw_iconst (v := 3) dX12_isSign_12 (by decide) ?_
    refine bw_icmp_ne (tgt := 28) dX12_isSign_13 (by decide) (fun c => ?_) (fun c => ?_)
    · replace h := h.1 (c)
      refine bw_iconst (v := 0) dX12_isSign_28 (by decide) ?_
      exact bw_ireturn dX12_isSign_29 rfl (bw_nb false) ⟨false, rfl, h⟩
    · replace h := h.2 (c)
      refine bw_aload_n (i := 0) dX12_isSign_16 rfl rfl ?_
      refine bw_geti fg_BentWordsModel_147 rfl dX12_isSign_17 ?_
      refine bw_iload_n (i := 1) dX12_isSign_20 rfl rfl ?_
      refine bw_icmp_ne (tgt := 28) dX12_isSign_21 (by decide) (fun c => ?_) (fun c => ?_)
      · replace h := h.1 (c)
        refine bw_iconst (v := 0) dX12_isSign_28 (by decide) ?_
        exact bw_ireturn dX12_isSign_29 rfl (bw_nb false) ⟨false, rfl, h⟩
      · replace h := h.2 (c)
        refine bw_iconst (v := 1) dX12_isSign_24 (by decide) ?_
        refine bw_goto (tgt := 29) dX12_isSign_25 (by decide) ?_
        exact bw_ireturn dX12_isSign_29 rfl (bw_nb true) ⟨true, rfl, h⟩
theorem fs_X12_isSign {E : bw_E} {d : Nat} {w : bw_W} {Q : Bool → bw_W → Prop} {a0 : Int32}   (h : Q (decide (((gw_i w 50 10) = (-1)) ∧ (((gw_i w 50 4) = 3) ∧ ((gw_i w 50 8) = a0)))) w) : bw_rb E (d + 0) mX12_isSign [.ref 50, .int a0] w Q := by
  refine wfX12_isSign  ?_
  refine ⟨fun c0 => ?_, fun c0 => ?_⟩
  · (try simp only [c0, if_true, if_false, ite_true, ite_false, decide_true, decide_false, true_and, and_true, false_and, and_false, not_true_eq_false, not_false_eq_true, true_or, or_true, false_or, or_false, or_self, and_self, Classical.not_not] at h) <;> exact h
  · refine ⟨fun c1 => ?_, fun c1 => ?_⟩
    · (try simp only [c0, c1, if_true, if_false, ite_true, ite_false, decide_true, decide_false, true_and, and_true, false_and, and_false, not_true_eq_false, not_false_eq_true, true_or, or_true, false_or, or_false, or_self, and_self, Classical.not_not] at h) <;> exact h
    · refine ⟨fun c2 => ?_, fun c2 => ?_⟩
      · (try simp only [c0, c1, c2, if_true, if_false, ite_true, ite_false, decide_true, decide_false, true_and, and_true, false_and, and_false, not_true_eq_false, not_false_eq_true, true_or, or_true, false_or, or_false, or_self, and_self, Classical.not_not] at h) <;> exact h
      · (try simp only [c0, c1, c2, if_true, if_false, ite_true, ite_false, decide_true, decide_false, true_and, and_true, false_and, and_false, not_true_eq_false, not_false_eq_true, true_or, or_true, false_or, or_false, or_self, and_self, Classical.not_not] at h) <;> exact h
theorem wfX12_isGood {E : bw_E} {d : Nat} {w : bw_W} {Q : Bool → bw_W → Prop}   (h : ((¬ (gw_i w 50 4) = 1 → Q false w) ∧ ((gw_i w 50 4) = 1 → ((8 < (gw_i w 50 9) → Q false w) ∧ (¬ (8 < (gw_i w 50 9)) → Q true w))))) : bw_rb E (d + 0) mX12_isGood [.ref 50] w Q := by
  refine bw_enter rfl (Nat.le_of_ble_eq_true rfl) ?_
  refine bw_aload_n (i := 0) dX12_isGood_0 rfl rfl ?_
  refine bw_geti fg_BentWordsModel_126 rfl dX12_isGood_1 ?_
  refine bw_iconst (v := 1) dX12_isGood_4 (by decide) ?_
  refine bw_icmp_ne (tgt := 21) dX12_isGood_5 (by decide) (fun c => ?_) (fun c => ?_)
  · replace h := h.1 (c)
    refine bw_iconst (v := 0) dX12_isGood_21 (by decide) ?_
    exact bw_ireturn dX12_isGood_22 rfl (bw_nb false) ⟨false, rfl, h⟩
  · replace h := h.2 (c)
    refine bw_aload_n (i := 0) dX12_isGood_8 rfl rfl ?_
    refine bw_geti fg_BentWordsModel_111 rfl dX12_isGood_9 ?_
    refine bw_bipush (v := 8) dX12_isGood_12 (by decide) ?_
    refine bw_icmp_gt (tgt := 21) dX12_isGood_14 (by decide) (fun c => ?_) (fun c => ?_)
    · replace h := h.1 (c)
      refine bw_iconst (v := 0) dX12_isGood_21 (by decide) ?_
      exact bw_ireturn dX12_isGood_22 rfl (bw_nb false) ⟨false, rfl, h⟩
    · replace h := h.2 (c)
      refine bw_iconst (v := 1) dX12_isGood_17 (by decide) ?_
      refine bw_goto (tgt := 22) dX12_isGood_18 (by decide) ?_
      exact bw_ireturn dX12_isGood_22 rfl (bw_nb true) ⟨true, rfl, h⟩
theorem fs_X12_isGood {E : bw_E} {d : Nat} {w : bw_W} {Q : Bool → bw_W → Prop}    (h : Q (decide (((gw_i w 50 4) = 1) ∧ (¬ (8 < (gw_i w 50 9))))) w) : bw_rb E (d + 0) mX12_isGood [.ref 50] w Q := by
  refine wfX12_isGood  ?_
  refine ⟨fun c0 => ?_, fun c0 => ?_⟩
  · (try simp only [c0, if_true, if_false, ite_true, ite_false, decide_true, decide_false, true_and, and_true, false_and, and_false, not_true_eq_false, not_false_eq_true, true_or, or_true, false_or, or_false, or_self, and_self, Classical.not_not] at h) <;> exact h
  · refine ⟨fun c1 => ?_, fun c1 => ?_⟩
    · (try simp only [c0, c1, if_true, if_false, ite_true, ite_false, decide_true, decide_false, true_and, and_true, false_and, and_false, not_true_eq_false, not_false_eq_true, true_or, or_true, false_or, or_false, or_self, and_self, Classical.not_not] at h) <;> exact h
    · (try simp only [c0, c1, if_true, if_false, ite_true, ite_false, decide_true, decide_false, true_and, and_true, false_and, and_false, not_true_eq_false, not_false_eq_true, true_or, or_true, false_or, or_false, or_self, and_self, Classical.not_not] at h) <;> exact h
theorem wfX12_formAt {E : bw_E} {d : Nat} {w : bw_W} {Q : Int32 → bw_W → Prop} {a0 : Int32} {a1 : Int32}  (h : Q ((2 * a0) + a1) w) : bw_ri E (d + 0) mX12_formAt [.int a0, .int a1] w Q := by
  refine bw_enter rfl (Nat.le_of_ble_eq_true rfl) ?_
  refine bw_iconst (v := 2) dX12_formAt_0 (by decide) ?_
  refine bw_iload_n (i := 0) dX12_formAt_1 rfl rfl ?_
  refine bw_imul dX12_formAt_2 ?_
  refine bw_iload_n (i := 1) dX12_formAt_3 rfl rfl ?_
  refine bw_iadd dX12_formAt_4 ?_
  exact bw_ireturn dX12_formAt_5 rfl rfl ⟨_, rfl, h⟩
theorem fs_X12_formAt {E : bw_E} {d : Nat} {w : bw_W} {Q : Int32 → bw_W → Prop} {a0 : Int32} {a1 : Int32}   (h : Q ((2 * a0) + a1) w) : bw_ri E (d + 0) mX12_formAt [.int a0, .int a1] w Q := by
  refine wfX12_formAt  ?_
  exact h
theorem wfX12_isLexicon {E : bw_E} {d : Nat} {w : bw_W} {Q : Bool → bw_W → Prop}   (h : (((gw_i w 50 34) ≤ 0 → Q false w) ∧ (¬ ((gw_i w 50 34) ≤ 0) → Q true w))) : bw_rb E (d + 0) mX12_isLexicon [.ref 50] w Q := by
  refine bw_enter rfl (Nat.le_of_ble_eq_true rfl) ?_
  refine bw_aload_n (i := 0) dX12_isLexicon_0 rfl rfl ?_
  refine bw_geti fg_BentWordsModel_269 rfl dX12_isLexicon_1 ?_
  refine bw_if_le (tgt := 11) dX12_isLexicon_4 (by decide) (fun c => ?_) (fun c => ?_)
  · replace h := h.1 (c)
    refine bw_iconst (v := 0) dX12_isLexicon_11 (by decide) ?_
    exact bw_ireturn dX12_isLexicon_12 rfl (bw_nb false) ⟨false, rfl, h⟩
  · replace h := h.2 (c)
    refine bw_iconst (v := 1) dX12_isLexicon_7 (by decide) ?_
    refine bw_goto (tgt := 12) dX12_isLexicon_8 (by decide) ?_
    exact bw_ireturn dX12_isLexicon_12 rfl (bw_nb true) ⟨true, rfl, h⟩
theorem fs_X12_isLexicon {E : bw_E} {d : Nat} {w : bw_W} {Q : Bool → bw_W → Prop}    (h : Q (decide ((¬ ((gw_i w 50 34) ≤ 0)))) w) : bw_rb E (d + 0) mX12_isLexicon [.ref 50] w Q := by
  refine wfX12_isLexicon  ?_
  refine ⟨fun c0 => ?_, fun c0 => ?_⟩
  · (try simp only [c0, if_true, if_false, ite_true, ite_false, decide_true, decide_false, true_and, and_true, false_and, and_false, not_true_eq_false, not_false_eq_true, true_or, or_true, false_or, or_false, or_self, and_self, Classical.not_not] at h) <;> exact h
  · (try simp only [c0, if_true, if_false, ite_true, ite_false, decide_true, decide_false, true_and, and_true, false_and, and_false, not_true_eq_false, not_false_eq_true, true_or, or_true, false_or, or_false, or_self, and_self, Classical.not_not] at h) <;> exact h
theorem wfX12_nounIn {E : bw_E} {d : Nat} {w : bw_W} {Q : Int32 → bw_W → Prop} {a0 : Int32}  (h : (vp_in (1 + (2 * a0)) 236) ∧
Q ((gw_l w 63 ((1 + (2 * a0)).toNatClampNeg)).toInt32) w) : bw_ri E (d + 0) mX12_nounIn [.ref 50, .int a0] w Q := by
  refine bw_enter rfl (Nat.le_of_ble_eq_true rfl) ?_
  refine bw_aload_n (i := 0) dX12_nounIn_0 rfl rfl ?_
  refine bw_getr (r := 63) fg_BentWordsModel_47 rfl rfl dX12_nounIn_1 ?_
  refine bw_iconst (v := 1) dX12_nounIn_4 (by decide) ?_
  refine bw_iconst (v := 2) dX12_nounIn_5 (by decide) ?_
  refine bw_iload_n (i := 1) dX12_nounIn_6 rfl rfl ?_
  refine bw_imul dX12_nounIn_7 ?_
  refine bw_iadd dX12_nounIn_8 ?_
  obtain ⟨hi1, h⟩ := h
  refine bw_laload rfl hi1 dX12_nounIn_9 ?_
  refine bw_l2i dX12_nounIn_10 ?_
  exact bw_ireturn dX12_nounIn_11 rfl rfl ⟨_, rfl, h⟩
def vX12_nounIn (w : bw_W) (a0 : Int32) : Int32 := ((gw_l w 63 ((1 + (2 * a0)).toNatClampNeg)).toInt32)
theorem fs_X12_nounIn {E : bw_E} {d : Nat} {w : bw_W} {Q : Int32 → bw_W → Prop} {a0 : Int32}  (hc0 : (vp_in (1 + (2 * a0)) 236)) (h : Q (vX12_nounIn w a0) w) : bw_ri E (d + 0) mX12_nounIn [.ref 50, .int a0] w Q := by
  refine wfX12_nounIn  ?_
  refine ⟨hc0 , ?_⟩
  exact h
theorem wfX12_countIn {E : bw_E} {d : Nat} {w : bw_W} {Q : Int32 → bw_W → Prop} {a0 : Int32}  (h : (vp_in ((1 + (2 * a0)) + 1) 236) ∧
Q ((gw_l w 63 (((1 + (2 * a0)) + 1).toNatClampNeg)).toInt32) w) : bw_ri E (d + 0) mX12_countIn [.ref 50, .int a0] w Q := by
  refine bw_enter rfl (Nat.le_of_ble_eq_true rfl) ?_
  refine bw_aload_n (i := 0) dX12_countIn_0 rfl rfl ?_
  refine bw_getr (r := 63) fg_BentWordsModel_47 rfl rfl dX12_countIn_1 ?_
  refine bw_iconst (v := 1) dX12_countIn_4 (by decide) ?_
  refine bw_iconst (v := 2) dX12_countIn_5 (by decide) ?_
  refine bw_iload_n (i := 1) dX12_countIn_6 rfl rfl ?_
  refine bw_imul dX12_countIn_7 ?_
  refine bw_iadd dX12_countIn_8 ?_
  refine bw_iconst (v := 1) dX12_countIn_9 (by decide) ?_
  refine bw_iadd dX12_countIn_10 ?_
  obtain ⟨hi1, h⟩ := h
  refine bw_laload rfl hi1 dX12_countIn_11 ?_
  refine bw_l2i dX12_countIn_12 ?_
  exact bw_ireturn dX12_countIn_13 rfl rfl ⟨_, rfl, h⟩
def vX12_countIn (w : bw_W) (a0 : Int32) : Int32 := ((gw_l w 63 (((1 + (2 * a0)) + 1).toNatClampNeg)).toInt32)
theorem fs_X12_countIn {E : bw_E} {d : Nat} {w : bw_W} {Q : Int32 → bw_W → Prop} {a0 : Int32}  (hc0 : (vp_in ((1 + (2 * a0)) + 1) 236)) (h : Q (vX12_countIn w a0) w) : bw_ri E (d + 0) mX12_countIn [.ref 50, .int a0] w Q := by
  refine wfX12_countIn  ?_
  refine ⟨hc0 , ?_⟩
  exact h
theorem wfX12_takeLexicon_18 {E : bw_E} {d : Nat} {w : bw_W} {Q : Int32 → bw_W → Prop} {l1 : Int32}  (h : ((236 ≤ l1 → bw_G E (d + 0) mX12_takeLexicon 40 [some (.ref 50), some (.int 0), none, none] [] w (bw_qi Q)) ∧ (¬ (236 ≤ l1) → (vp_in l1 236) ∧
bw_G E (d + 0) mX12_takeLexicon 18 [some (.ref 50), some (.int (l1 + 1)), none, none] [] (sw_l w 63 (l1.toNatClampNeg) 0) (bw_qi Q)))) : bw_G E (d + 0) mX12_takeLexicon 18 [some (.ref 50), some (.int l1), none, none] [] w (bw_qi Q) := by
  refine bw_iload_n (i := 1) dX12_takeLexicon_18 rfl rfl ?_
  refine bw_sipush (v := 236) dX12_takeLexicon_19 (by decide) ?_
  refine bw_icmp_ge (tgt := 38) dX12_takeLexicon_22 (by decide) (fun c => ?_) (fun c => ?_)
  · replace h := h.1 (c)
    refine bw_iconst (v := 0) dX12_takeLexicon_38 (by decide) ?_
    refine bw_istore_n (i := 1) (L' := [some (.ref 50), some (.int 0), none, none]) dX12_takeLexicon_39 rfl (Nat.le_of_ble_eq_true rfl) rfl ?_
    exact h
  · replace h := h.2 (c)
    refine bw_aload_n (i := 0) dX12_takeLexicon_25 rfl rfl ?_
    refine bw_getr (r := 63) fg_BentWordsModel_47 rfl rfl dX12_takeLexicon_26 ?_
    refine bw_iload_n (i := 1) dX12_takeLexicon_29 rfl rfl ?_
    refine bw_lconst (v := 0) dX12_takeLexicon_30 rfl ?_
    obtain ⟨hi1, h⟩ := h
    refine bw_lastore rfl hi1 dX12_takeLexicon_31 ?_
    refine bw_iinc (i := 1) (x := l1) (v := (l1 + 1)) (L' := [some (.ref 50), some (.int (l1 + 1)), none, none]) dX12_takeLexicon_32 rfl rfl (Nat.le_of_ble_eq_true rfl) rfl ?_
    refine bw_goto (tgt := 18) dX12_takeLexicon_35 (by decide) ?_
    exact h
theorem wfX12_takeLexicon_40 {E : bw_E} {d : Nat} {w : bw_W} {Q : Int32 → bw_W → Prop} {l1 : Int32}  (h : ((3 ≤ l1 → bw_G E (d + 0) mX12_takeLexicon 66 [some (.ref 50), some (.int 0), none, none] [] w (bw_qi Q)) ∧ (¬ (3 ≤ l1) → (vp_in (1 + (2 * l1)) 236) ∧
bw_G E (d + 0) mX12_takeLexicon 40 [some (.ref 50), some (.int (l1 + 1)), none, none] [] (sw_l w 63 ((1 + (2 * l1)).toNatClampNeg) (-1)) (bw_qi Q)))) : bw_G E (d + 0) mX12_takeLexicon 40 [some (.ref 50), some (.int l1), none, none] [] w (bw_qi Q) := by
  refine bw_iload_n (i := 1) dX12_takeLexicon_40 rfl rfl ?_
  refine bw_iconst (v := 3) dX12_takeLexicon_41 (by decide) ?_
  refine bw_icmp_ge (tgt := 64) dX12_takeLexicon_42 (by decide) (fun c => ?_) (fun c => ?_)
  · replace h := h.1 (c)
    refine bw_iconst (v := 0) dX12_takeLexicon_64 (by decide) ?_
    refine bw_istore_n (i := 1) (L' := [some (.ref 50), some (.int 0), none, none]) dX12_takeLexicon_65 rfl (Nat.le_of_ble_eq_true rfl) rfl ?_
    exact h
  · replace h := h.2 (c)
    refine bw_aload_n (i := 0) dX12_takeLexicon_45 rfl rfl ?_
    refine bw_getr (r := 63) fg_BentWordsModel_47 rfl rfl dX12_takeLexicon_46 ?_
    refine bw_iconst (v := 1) dX12_takeLexicon_49 (by decide) ?_
    refine bw_iconst (v := 2) dX12_takeLexicon_50 (by decide) ?_
    refine bw_iload_n (i := 1) dX12_takeLexicon_51 rfl rfl ?_
    refine bw_imul dX12_takeLexicon_52 ?_
    refine bw_iadd dX12_takeLexicon_53 ?_
    refine bw_ldc2 kl_BentWordsModel_281 dX12_takeLexicon_54 ?_
    obtain ⟨hi1, h⟩ := h
    refine bw_lastore rfl hi1 dX12_takeLexicon_57 ?_
    refine bw_iinc (i := 1) (x := l1) (v := (l1 + 1)) (L' := [some (.ref 50), some (.int (l1 + 1)), none, none]) dX12_takeLexicon_58 rfl rfl (Nat.le_of_ble_eq_true rfl) rfl ?_
    refine bw_goto (tgt := 40) dX12_takeLexicon_61 (by decide) ?_
    exact h
theorem wfX12_takeLexicon_66 {E : bw_E} {d : Nat} {w : bw_W} {Q : Int32 → bw_W → Prop} {l1 : Int32}  (h : (((gw_i w 50 34) ≤ l1 → bw_G E (d + 0) mX12_takeLexicon 145 [some (.ref 50), some (.int 0), none, none] [] w (bw_qi Q)) ∧ (¬ ((gw_i w 50 34) ≤ l1) → (vp_in l1 6) ∧
(vp_in l1 6) ∧
(vp_in l1 6) ∧
(vp_in l1 6) ∧
bw_G E (d + 0) mX12_takeLexicon 100 [some (.ref 50), some (.int l1), some (.int 0), none] [] (sw_i (sw_l w 65 (l1.toNatClampNeg) (gw_l w 52 (l1.toNatClampNeg))) 66 (l1.toNatClampNeg) (gw_i w 53 (l1.toNatClampNeg))) (bw_qi Q)))) : bw_G E (d + 0) mX12_takeLexicon 66 [some (.ref 50), some (.int l1), none, none] [] w (bw_qi Q) := by
  refine bw_iload_n (i := 1) dX12_takeLexicon_66 rfl rfl ?_
  refine bw_aload_n (i := 0) dX12_takeLexicon_67 rfl rfl ?_
  refine bw_geti fg_BentWordsModel_269 rfl dX12_takeLexicon_68 ?_
  refine bw_icmp_ge (tgt := 143) dX12_takeLexicon_71 (by decide) (fun c => ?_) (fun c => ?_)
  · replace h := h.1 (c)
    refine bw_iconst (v := 0) dX12_takeLexicon_143 (by decide) ?_
    refine bw_istore_n (i := 1) (L' := [some (.ref 50), some (.int 0), none, none]) dX12_takeLexicon_144 rfl (Nat.le_of_ble_eq_true rfl) rfl ?_
    exact h
  · replace h := h.2 (c)
    refine bw_aload_n (i := 0) dX12_takeLexicon_74 rfl rfl ?_
    refine bw_getr (r := 65) fg_BentWordsModel_53 rfl rfl dX12_takeLexicon_75 ?_
    refine bw_iload_n (i := 1) dX12_takeLexicon_78 rfl rfl ?_
    refine bw_aload_n (i := 0) dX12_takeLexicon_79 rfl rfl ?_
    refine bw_getr (r := 52) fg_BentWordsModel_13 rfl rfl dX12_takeLexicon_80 ?_
    refine bw_iload_n (i := 1) dX12_takeLexicon_83 rfl rfl ?_
    obtain ⟨hi1, h⟩ := h
    refine bw_laload rfl hi1 dX12_takeLexicon_84 ?_
    obtain ⟨hi2, h⟩ := h
    refine bw_lastore rfl hi2 dX12_takeLexicon_85 ?_
    refine bw_aload_n (i := 0) dX12_takeLexicon_86 rfl rfl ?_
    refine bw_getr (r := 66) fg_BentWordsModel_56 rfl rfl dX12_takeLexicon_87 ?_
    refine bw_iload_n (i := 1) dX12_takeLexicon_90 rfl rfl ?_
    refine bw_aload_n (i := 0) dX12_takeLexicon_91 rfl rfl ?_
    refine bw_getr (r := 53) fg_BentWordsModel_17 rfl rfl dX12_takeLexicon_92 ?_
    refine bw_iload_n (i := 1) dX12_takeLexicon_95 rfl rfl ?_
    obtain ⟨hi3, h⟩ := h
    refine bw_iaload rfl hi3 dX12_takeLexicon_96 ?_
    rw [show gw_i (sw_l w 65 (l1.toNatClampNeg) (gw_l w 52 (l1.toNatClampNeg))) 53 (l1.toNatClampNeg) = (gw_i w 53 (l1.toNatClampNeg)) from by first | rfl | (simp [gs_ii, gs_ll, gs_il, gs_li]; done)]
    obtain ⟨hi4, h⟩ := h
    refine bw_iastore rfl hi4 dX12_takeLexicon_97 ?_
    refine bw_iconst (v := 0) dX12_takeLexicon_98 (by decide) ?_
    refine bw_istore_n (i := 2) (L' := [some (.ref 50), some (.int l1), some (.int 0), none]) dX12_takeLexicon_99 rfl (Nat.le_of_ble_eq_true rfl) rfl ?_
    exact h
theorem wfX12_takeLexicon_100 {E : bw_E} {d : Nat} {w : bw_W} {Q : Int32 → bw_W → Prop} {l1 : Int32} {l2 : Int32}  (h : ((8 ≤ l2 → bw_G E (d + 0) mX12_takeLexicon 66 [some (.ref 50), some (.int (l1 + 1)), none, none] [] w (bw_qi Q)) ∧ (¬ (8 ≤ l2) → (vp_in ((8 * l1) + l2) 48) ∧
(vp_in ((7 + (8 * l1)) + l2) 236) ∧
bw_G E (d + 0) mX12_takeLexicon 100 [some (.ref 50), some (.int l1), some (.int (l2 + 1)), none] [] (sw_l w 63 (((7 + (8 * l1)) + l2).toNatClampNeg) (gw_l w 54 (((8 * l1) + l2).toNatClampNeg))) (bw_qi Q)))) : bw_G E (d + 0) mX12_takeLexicon 100 [some (.ref 50), some (.int l1), some (.int l2), none] [] w (bw_qi Q) := by
  refine bw_iload_n (i := 2) dX12_takeLexicon_100 rfl rfl ?_
  refine bw_bipush (v := 8) dX12_takeLexicon_101 (by decide) ?_
  refine bw_icmp_ge (tgt := 137) dX12_takeLexicon_103 (by decide) (fun c => ?_) (fun c => ?_)
  · replace h := h.1 (c)
    refine bw_iinc (i := 1) (x := l1) (v := (l1 + 1)) (L' := [some (.ref 50), some (.int (l1 + 1)), some (.int l2), none]) dX12_takeLexicon_137 rfl rfl (Nat.le_of_ble_eq_true rfl) rfl ?_
    refine bw_goto (tgt := 66) dX12_takeLexicon_140 (by decide) ?_
    exact bw_wk [2] rfl h
  · replace h := h.2 (c)
    refine bw_aload_n (i := 0) dX12_takeLexicon_106 rfl rfl ?_
    refine bw_getr (r := 63) fg_BentWordsModel_47 rfl rfl dX12_takeLexicon_107 ?_
    refine bw_bipush (v := 7) dX12_takeLexicon_110 (by decide) ?_
    refine bw_bipush (v := 8) dX12_takeLexicon_112 (by decide) ?_
    refine bw_iload_n (i := 1) dX12_takeLexicon_114 rfl rfl ?_
    refine bw_imul dX12_takeLexicon_115 ?_
    refine bw_iadd dX12_takeLexicon_116 ?_
    refine bw_iload_n (i := 2) dX12_takeLexicon_117 rfl rfl ?_
    refine bw_iadd dX12_takeLexicon_118 ?_
    refine bw_aload_n (i := 0) dX12_takeLexicon_119 rfl rfl ?_
    refine bw_getr (r := 54) fg_BentWordsModel_20 rfl rfl dX12_takeLexicon_120 ?_
    refine bw_bipush (v := 8) dX12_takeLexicon_123 (by decide) ?_
    refine bw_iload_n (i := 1) dX12_takeLexicon_125 rfl rfl ?_
    refine bw_imul dX12_takeLexicon_126 ?_
    refine bw_iload_n (i := 2) dX12_takeLexicon_127 rfl rfl ?_
    refine bw_iadd dX12_takeLexicon_128 ?_
    obtain ⟨hi1, h⟩ := h
    refine bw_laload rfl hi1 dX12_takeLexicon_129 ?_
    obtain ⟨hi2, h⟩ := h
    refine bw_lastore rfl hi2 dX12_takeLexicon_130 ?_
    refine bw_iinc (i := 2) (x := l2) (v := (l2 + 1)) (L' := [some (.ref 50), some (.int l1), some (.int (l2 + 1)), none]) dX12_takeLexicon_131 rfl rfl (Nat.le_of_ble_eq_true rfl) rfl ?_
    refine bw_goto (tgt := 100) dX12_takeLexicon_134 (by decide) ?_
    exact h
theorem wfX12_takeLexicon_145 {E : bw_E} {d : Nat} {w : bw_W} {Q : Int32 → bw_W → Prop} {l1 : Int32}  (h : ((48 ≤ l1 → bw_G E (d + 0) mX12_takeLexicon 171 [some (.ref 50), some (.int 0), none, none] [] w (bw_qi Q)) ∧ (¬ (48 ≤ l1) → (vp_in l1 48) ∧
(vp_in l1 48) ∧
bw_G E (d + 0) mX12_takeLexicon 145 [some (.ref 50), some (.int (l1 + 1)), none, none] [] (sw_l w 67 (l1.toNatClampNeg) (gw_l w 55 (l1.toNatClampNeg))) (bw_qi Q)))) : bw_G E (d + 0) mX12_takeLexicon 145 [some (.ref 50), some (.int l1), none, none] [] w (bw_qi Q) := by
  refine bw_iload_n (i := 1) dX12_takeLexicon_145 rfl rfl ?_
  refine bw_bipush (v := 48) dX12_takeLexicon_146 (by decide) ?_
  refine bw_icmp_ge (tgt := 169) dX12_takeLexicon_148 (by decide) (fun c => ?_) (fun c => ?_)
  · replace h := h.1 (c)
    refine bw_iconst (v := 0) dX12_takeLexicon_169 (by decide) ?_
    refine bw_istore_n (i := 1) (L' := [some (.ref 50), some (.int 0), none, none]) dX12_takeLexicon_170 rfl (Nat.le_of_ble_eq_true rfl) rfl ?_
    exact h
  · replace h := h.2 (c)
    refine bw_aload_n (i := 0) dX12_takeLexicon_151 rfl rfl ?_
    refine bw_getr (r := 67) fg_BentWordsModel_59 rfl rfl dX12_takeLexicon_152 ?_
    refine bw_iload_n (i := 1) dX12_takeLexicon_155 rfl rfl ?_
    refine bw_aload_n (i := 0) dX12_takeLexicon_156 rfl rfl ?_
    refine bw_getr (r := 55) fg_BentWordsModel_23 rfl rfl dX12_takeLexicon_157 ?_
    refine bw_iload_n (i := 1) dX12_takeLexicon_160 rfl rfl ?_
    obtain ⟨hi1, h⟩ := h
    refine bw_laload rfl hi1 dX12_takeLexicon_161 ?_
    obtain ⟨hi2, h⟩ := h
    refine bw_lastore rfl hi2 dX12_takeLexicon_162 ?_
    refine bw_iinc (i := 1) (x := l1) (v := (l1 + 1)) (L' := [some (.ref 50), some (.int (l1 + 1)), none, none]) dX12_takeLexicon_163 rfl rfl (Nat.le_of_ble_eq_true rfl) rfl ?_
    refine bw_goto (tgt := 145) dX12_takeLexicon_166 (by decide) ?_
    exact h
theorem wfX12_takeLexicon_171 {E : bw_E} {d : Nat} {w : bw_W} {Q : Int32 → bw_W → Prop} {l1 : Int32}  (h : (((gw_i w 50 35) ≤ l1 → Q (gw_i w 50 34) (sw_i (sw_i w 50 42 0) 50 51 0)) ∧ (¬ ((gw_i w 50 35) ≤ l1) → (vp_in l1 4) ∧
(vp_in l1 4) ∧
bw_G E (d + 0) mX12_takeLexicon 193 [some (.ref 50), some (.int l1), some (.int 0), none] [] (sw_i w 68 (l1.toNatClampNeg) (gw_i w 57 (l1.toNatClampNeg))) (bw_qi Q)))) : bw_G E (d + 0) mX12_takeLexicon 171 [some (.ref 50), some (.int l1), none, none] [] w (bw_qi Q) := by
  refine bw_iload_n (i := 1) dX12_takeLexicon_171 rfl rfl ?_
  refine bw_aload_n (i := 0) dX12_takeLexicon_172 rfl rfl ?_
  refine bw_geti fg_BentWordsModel_275 rfl dX12_takeLexicon_173 ?_
  refine bw_icmp_ge (tgt := 290) dX12_takeLexicon_176 (by decide) (fun c => ?_) (fun c => ?_)
  · replace h := h.1 (c)
    refine bw_aload_n (i := 0) dX12_takeLexicon_290 rfl rfl ?_
    refine bw_iconst (v := 0) dX12_takeLexicon_291 (by decide) ?_
    refine bw_puti fp_BentWordsModel_283 rfl rfl rfl dX12_takeLexicon_292 ?_
    refine bw_aload_n (i := 0) dX12_takeLexicon_295 rfl rfl ?_
    refine bw_iconst (v := 0) dX12_takeLexicon_296 (by decide) ?_
    refine bw_puti fp_BentWordsModel_286 rfl (by decide) (by decide) dX12_takeLexicon_297 ?_
    refine bw_aload_n (i := 0) dX12_takeLexicon_300 rfl rfl ?_
    refine bw_geti fg_BentWordsModel_269 rfl dX12_takeLexicon_301 ?_
    rw [show gw_i (sw_i (sw_i w 50 42 0) 50 51 0) 50 34 = (gw_i w 50 34) from rfl]
    exact bw_ireturn dX12_takeLexicon_304 rfl rfl ⟨_, rfl, h⟩
  · replace h := h.2 (c)
    refine bw_aload_n (i := 0) dX12_takeLexicon_179 rfl rfl ?_
    refine bw_getr (r := 68) fg_BentWordsModel_62 rfl rfl dX12_takeLexicon_180 ?_
    refine bw_iload_n (i := 1) dX12_takeLexicon_183 rfl rfl ?_
    refine bw_aload_n (i := 0) dX12_takeLexicon_184 rfl rfl ?_
    refine bw_getr (r := 57) fg_BentWordsModel_29 rfl rfl dX12_takeLexicon_185 ?_
    refine bw_iload_n (i := 1) dX12_takeLexicon_188 rfl rfl ?_
    obtain ⟨hi1, h⟩ := h
    refine bw_iaload rfl hi1 dX12_takeLexicon_189 ?_
    obtain ⟨hi2, h⟩ := h
    refine bw_iastore rfl hi2 dX12_takeLexicon_190 ?_
    refine bw_iconst (v := 0) dX12_takeLexicon_191 (by decide) ?_
    refine bw_istore_n (i := 2) (L' := [some (.ref 50), some (.int l1), some (.int 0), none]) dX12_takeLexicon_192 rfl (Nat.le_of_ble_eq_true rfl) rfl ?_
    exact h
theorem wfX12_takeLexicon_193 {E : bw_E} {d : Nat} {w : bw_W} {Q : Int32 → bw_W → Prop} {l1 : Int32} {l2 : Int32}  (h : (vp_in l1 4) ∧
(((gw_i w 68 (l1.toNatClampNeg)) ≤ l2 → bw_G E (d + 0) mX12_takeLexicon 171 [some (.ref 50), some (.int (l1 + 1)), none, none] [] w (bw_qi Q)) ∧ (¬ ((gw_i w 68 (l1.toNatClampNeg)) ≤ l2) → (vp_in ((8 * l1) + l2) 32) ∧
(vp_in ((8 * l1) + l2) 32) ∧
(vp_in (3 * ((8 * l1) + l2)) 96) ∧
(vp_in (3 * ((8 * l1) + l2)) 96) ∧
(vp_in ((3 * ((8 * l1) + l2)) + 1) 96) ∧
(vp_in ((3 * ((8 * l1) + l2)) + 1) 96) ∧
(vp_in ((3 * ((8 * l1) + l2)) + 2) 96) ∧
(vp_in ((3 * ((8 * l1) + l2)) + 2) 96) ∧
bw_G E (d + 0) mX12_takeLexicon 193 [some (.ref 50), some (.int l1), some (.int (l2 + 1)), none] [] (sw_i (sw_i (sw_i (sw_l w 70 (((8 * l1) + l2).toNatClampNeg) (gw_l w 59 (((8 * l1) + l2).toNatClampNeg))) 69 ((3 * ((8 * l1) + l2)).toNatClampNeg) (gw_i w 58 ((3 * ((8 * l1) + l2)).toNatClampNeg))) 69 (((3 * ((8 * l1) + l2)) + 1).toNatClampNeg) (gw_i w 58 (((3 * ((8 * l1) + l2)) + 1).toNatClampNeg))) 69 (((3 * ((8 * l1) + l2)) + 2).toNatClampNeg) (gw_i w 58 (((3 * ((8 * l1) + l2)) + 2).toNatClampNeg))) (bw_qi Q)))) : bw_G E (d + 0) mX12_takeLexicon 193 [some (.ref 50), some (.int l1), some (.int l2), none] [] w (bw_qi Q) := by
  refine bw_iload_n (i := 2) dX12_takeLexicon_193 rfl rfl ?_
  refine bw_aload_n (i := 0) dX12_takeLexicon_194 rfl rfl ?_
  refine bw_getr (r := 68) fg_BentWordsModel_62 rfl rfl dX12_takeLexicon_195 ?_
  refine bw_iload_n (i := 1) dX12_takeLexicon_198 rfl rfl ?_
  obtain ⟨hi1, h⟩ := h
  refine bw_iaload rfl hi1 dX12_takeLexicon_199 ?_
  refine bw_icmp_ge (tgt := 284) dX12_takeLexicon_200 (by decide) (fun c => ?_) (fun c => ?_)
  · replace h := h.1 (c)
    refine bw_iinc (i := 1) (x := l1) (v := (l1 + 1)) (L' := [some (.ref 50), some (.int (l1 + 1)), some (.int l2), none]) dX12_takeLexicon_284 rfl rfl (Nat.le_of_ble_eq_true rfl) rfl ?_
    refine bw_goto (tgt := 171) dX12_takeLexicon_287 (by decide) ?_
    exact bw_wk [2] rfl h
  · replace h := h.2 (c)
    refine bw_bipush (v := 8) dX12_takeLexicon_203 (by decide) ?_
    refine bw_iload_n (i := 1) dX12_takeLexicon_205 rfl rfl ?_
    refine bw_imul dX12_takeLexicon_206 ?_
    refine bw_iload_n (i := 2) dX12_takeLexicon_207 rfl rfl ?_
    refine bw_iadd dX12_takeLexicon_208 ?_
    refine bw_istore_n (i := 3) (L' := [some (.ref 50), some (.int l1), some (.int l2), some (.int ((8 * l1) + l2))]) dX12_takeLexicon_209 rfl (Nat.le_of_ble_eq_true rfl) rfl ?_
    refine bw_aload_n (i := 0) dX12_takeLexicon_210 rfl rfl ?_
    refine bw_getr (r := 70) fg_BentWordsModel_68 rfl rfl dX12_takeLexicon_211 ?_
    refine bw_iload_n (i := 3) dX12_takeLexicon_214 rfl rfl ?_
    refine bw_aload_n (i := 0) dX12_takeLexicon_215 rfl rfl ?_
    refine bw_getr (r := 59) fg_BentWordsModel_35 rfl rfl dX12_takeLexicon_216 ?_
    refine bw_iload_n (i := 3) dX12_takeLexicon_219 rfl rfl ?_
    obtain ⟨hi2, h⟩ := h
    refine bw_laload rfl hi2 dX12_takeLexicon_220 ?_
    obtain ⟨hi3, h⟩ := h
    refine bw_lastore rfl hi3 dX12_takeLexicon_221 ?_
    refine bw_aload_n (i := 0) dX12_takeLexicon_222 rfl rfl ?_
    refine bw_getr (r := 69) fg_BentWordsModel_65 rfl rfl dX12_takeLexicon_223 ?_
    refine bw_iconst (v := 3) dX12_takeLexicon_226 (by decide) ?_
    refine bw_iload_n (i := 3) dX12_takeLexicon_227 rfl rfl ?_
    refine bw_imul dX12_takeLexicon_228 ?_
    refine bw_aload_n (i := 0) dX12_takeLexicon_229 rfl rfl ?_
    refine bw_getr (r := 58) fg_BentWordsModel_32 rfl rfl dX12_takeLexicon_230 ?_
    refine bw_iconst (v := 3) dX12_takeLexicon_233 (by decide) ?_
    refine bw_iload_n (i := 3) dX12_takeLexicon_234 rfl rfl ?_
    refine bw_imul dX12_takeLexicon_235 ?_
    obtain ⟨hi4, h⟩ := h
    refine bw_iaload rfl hi4 dX12_takeLexicon_236 ?_
    rw [show gw_i (sw_l w 70 (((8 * l1) + l2).toNatClampNeg) (gw_l w 59 (((8 * l1) + l2).toNatClampNeg))) 58 ((3 * ((8 * l1) + l2)).toNatClampNeg) = (gw_i w 58 ((3 * ((8 * l1) + l2)).toNatClampNeg)) from by first | rfl | (simp [gs_ii, gs_ll, gs_il, gs_li]; done)]
    obtain ⟨hi5, h⟩ := h
    refine bw_iastore rfl hi5 dX12_takeLexicon_237 ?_
    refine bw_aload_n (i := 0) dX12_takeLexicon_238 rfl rfl ?_
    refine bw_getr (r := 69) fg_BentWordsModel_65 rfl rfl dX12_takeLexicon_239 ?_
    refine bw_iconst (v := 3) dX12_takeLexicon_242 (by decide) ?_
    refine bw_iload_n (i := 3) dX12_takeLexicon_243 rfl rfl ?_
    refine bw_imul dX12_takeLexicon_244 ?_
    refine bw_iconst (v := 1) dX12_takeLexicon_245 (by decide) ?_
    refine bw_iadd dX12_takeLexicon_246 ?_
    refine bw_aload_n (i := 0) dX12_takeLexicon_247 rfl rfl ?_
    refine bw_getr (r := 58) fg_BentWordsModel_32 rfl rfl dX12_takeLexicon_248 ?_
    refine bw_iconst (v := 3) dX12_takeLexicon_251 (by decide) ?_
    refine bw_iload_n (i := 3) dX12_takeLexicon_252 rfl rfl ?_
    refine bw_imul dX12_takeLexicon_253 ?_
    refine bw_iconst (v := 1) dX12_takeLexicon_254 (by decide) ?_
    refine bw_iadd dX12_takeLexicon_255 ?_
    obtain ⟨hi6, h⟩ := h
    refine bw_iaload rfl hi6 dX12_takeLexicon_256 ?_
    rw [show gw_i (sw_i (sw_l w 70 (((8 * l1) + l2).toNatClampNeg) (gw_l w 59 (((8 * l1) + l2).toNatClampNeg))) 69 ((3 * ((8 * l1) + l2)).toNatClampNeg) (gw_i w 58 ((3 * ((8 * l1) + l2)).toNatClampNeg))) 58 (((3 * ((8 * l1) + l2)) + 1).toNatClampNeg) = (gw_i w 58 (((3 * ((8 * l1) + l2)) + 1).toNatClampNeg)) from by first | rfl | (simp [gs_ii, gs_ll, gs_il, gs_li]; done)]
    obtain ⟨hi7, h⟩ := h
    refine bw_iastore rfl hi7 dX12_takeLexicon_257 ?_
    refine bw_aload_n (i := 0) dX12_takeLexicon_258 rfl rfl ?_
    refine bw_getr (r := 69) fg_BentWordsModel_65 rfl rfl dX12_takeLexicon_259 ?_
    refine bw_iconst (v := 3) dX12_takeLexicon_262 (by decide) ?_
    refine bw_iload_n (i := 3) dX12_takeLexicon_263 rfl rfl ?_
    refine bw_imul dX12_takeLexicon_264 ?_
    refine bw_iconst (v := 2) dX12_takeLexicon_265 (by decide) ?_
    refine bw_iadd dX12_takeLexicon_266 ?_
    refine bw_aload_n (i := 0) dX12_takeLexicon_267 rfl rfl ?_
    refine bw_getr (r := 58) fg_BentWordsModel_32 rfl rfl dX12_takeLexicon_268 ?_
    refine bw_iconst (v := 3) dX12_takeLexicon_271 (by decide) ?_
    refine bw_iload_n (i := 3) dX12_takeLexicon_272 rfl rfl ?_
    refine bw_imul dX12_takeLexicon_273 ?_
    refine bw_iconst (v := 2) dX12_takeLexicon_274 (by decide) ?_
    refine bw_iadd dX12_takeLexicon_275 ?_
    obtain ⟨hi8, h⟩ := h
    refine bw_iaload rfl hi8 dX12_takeLexicon_276 ?_
    rw [show gw_i (sw_i (sw_i (sw_l w 70 (((8 * l1) + l2).toNatClampNeg) (gw_l w 59 (((8 * l1) + l2).toNatClampNeg))) 69 ((3 * ((8 * l1) + l2)).toNatClampNeg) (gw_i w 58 ((3 * ((8 * l1) + l2)).toNatClampNeg))) 69 (((3 * ((8 * l1) + l2)) + 1).toNatClampNeg) (gw_i w 58 (((3 * ((8 * l1) + l2)) + 1).toNatClampNeg))) 58 (((3 * ((8 * l1) + l2)) + 2).toNatClampNeg) = (gw_i w 58 (((3 * ((8 * l1) + l2)) + 2).toNatClampNeg)) from by first | rfl | (simp [gs_ii, gs_ll, gs_il, gs_li]; done)]
    obtain ⟨hi9, h⟩ := h
    refine bw_iastore rfl hi9 dX12_takeLexicon_277 ?_
    refine bw_iinc (i := 2) (x := l2) (v := (l2 + 1)) (L' := [some (.ref 50), some (.int l1), some (.int (l2 + 1)), some (.int ((8 * l1) + l2))]) dX12_takeLexicon_278 rfl rfl (Nat.le_of_ble_eq_true rfl) rfl ?_
    refine bw_goto (tgt := 193) dX12_takeLexicon_281 (by decide) ?_
    exact bw_wk [3] rfl h
theorem wfX12_takeLexicon {E : bw_E} {d : Nat} {w : bw_W} {Q : Int32 → bw_W → Prop}   (h : bw_G E (d + 0) mX12_takeLexicon 18 [some (.ref 50), some (.int 0), none, none] [] (sw_i (sw_i w 50 34 (gw_i w 50 20)) 50 35 (gw_i w 50 21)) (bw_qi Q)) : bw_ri E (d + 0) mX12_takeLexicon [.ref 50] w Q := by
  refine bw_enter rfl (Nat.le_of_ble_eq_true rfl) ?_
  refine bw_aload_n (i := 0) dX12_takeLexicon_0 rfl rfl ?_
  refine bw_aload_n (i := 0) dX12_takeLexicon_1 rfl rfl ?_
  refine bw_geti fg_BentWordsModel_174 rfl dX12_takeLexicon_2 ?_
  refine bw_puti fp_BentWordsModel_269 rfl rfl rfl dX12_takeLexicon_5 ?_
  refine bw_aload_n (i := 0) dX12_takeLexicon_8 rfl rfl ?_
  refine bw_aload_n (i := 0) dX12_takeLexicon_9 rfl rfl ?_
  refine bw_geti fg_BentWordsModel_181 rfl dX12_takeLexicon_10 ?_
  rw [show gw_i (sw_i w 50 34 (gw_i w 50 20)) 50 21 = (gw_i w 50 21) from rfl]
  refine bw_puti fp_BentWordsModel_275 rfl rfl rfl dX12_takeLexicon_13 ?_
  refine bw_iconst (v := 0) dX12_takeLexicon_16 (by decide) ?_
  refine bw_istore_n (i := 1) (L' := [some (.ref 50), some (.int 0), none, none]) dX12_takeLexicon_17 rfl (Nat.le_of_ble_eq_true rfl) rfl ?_
  exact h
theorem wfX12_lettersOf_4 {E : bw_E} {d : Nat} {w : bw_W} {Q : Int32 → bw_W → Prop} {l0 : Int64} {l2 : Int32} {l3 : Int64}  (h : ((l3 ≤ 0 → Q l2 w) ∧ (¬ l3 ≤ 0 → bw_G E (d + 0) mX12_lettersOf 4 [some (.long l0), none, some (.int (l2 + 1)), some (.long (l3 / 27)), none] [] w (bw_qi Q)))) : bw_G E (d + 0) mX12_lettersOf 4 [some (.long l0), none, some (.int l2), some (.long l3), none] [] w (bw_qi Q) := by
  refine bw_lload_n (i := 3) dX12_lettersOf_4 rfl rfl ?_
  refine bw_lconst (v := 0) dX12_lettersOf_5 rfl ?_
  refine bw_lcmp_le (tgt := 22) dX12_lettersOf_6 dX12_lettersOf_7 (by decide) (fun c => ?_) (fun c => ?_)
  · replace h := h.1 (c)
    refine bw_iload_n (i := 2) dX12_lettersOf_22 rfl rfl ?_
    exact bw_ireturn dX12_lettersOf_23 rfl rfl ⟨_, rfl, h⟩
  · replace h := h.2 (c)
    refine bw_iinc (i := 2) (x := l2) (v := (l2 + 1)) (L' := [some (.long l0), none, some (.int (l2 + 1)), some (.long l3), none]) dX12_lettersOf_10 rfl rfl (Nat.le_of_ble_eq_true rfl) rfl ?_
    refine bw_lload_n (i := 3) dX12_lettersOf_13 rfl rfl ?_
    refine bw_ldc2 kl_BentWordsModel_122 dX12_lettersOf_14 ?_
    refine bw_ldiv dX12_lettersOf_17 (by decide) ?_
    refine bw_lstore_n (i := 3) (L' := [some (.long l0), none, some (.int (l2 + 1)), some (.long (l3 / 27)), none]) dX12_lettersOf_18 rfl (Nat.le_of_ble_eq_true rfl) rfl ?_
    refine bw_goto (tgt := 4) dX12_lettersOf_19 (by decide) ?_
    exact h
theorem wfX12_lettersOf {E : bw_E} {d : Nat} {w : bw_W} {Q : Int32 → bw_W → Prop} {a0 : Int64}  (h : bw_G E (d + 0) mX12_lettersOf 4 [some (.long a0), none, some (.int 0), some (.long a0), none] [] w (bw_qi Q)) : bw_ri E (d + 0) mX12_lettersOf [.long a0] w Q := by
  refine bw_enter rfl (Nat.le_of_ble_eq_true rfl) ?_
  refine bw_iconst (v := 0) dX12_lettersOf_0 (by decide) ?_
  refine bw_istore_n (i := 2) (L' := [some (.long a0), none, some (.int 0), none, none]) dX12_lettersOf_1 rfl (Nat.le_of_ble_eq_true rfl) rfl ?_
  refine bw_lload_n (i := 0) dX12_lettersOf_2 rfl rfl ?_
  refine bw_lstore_n (i := 3) (L' := [some (.long a0), none, some (.int 0), some (.long a0), none]) dX12_lettersOf_3 rfl (Nat.le_of_ble_eq_true rfl) rfl ?_
  exact h
theorem wfX12_says {E : bw_E} {d : Nat} {w : bw_W} {Q : bw_W → Prop} {a0 : Int32}  (h : (vp_in (gw_i w 50 37) 200) ∧
Q (sw_i (sw_i w 71 ((gw_i w 50 37).toNatClampNeg) a0) 50 37 ((gw_i w 50 37) + 1))) : bw_rv E (d + 0) mX12_says [.ref 50, .int a0] w Q := by
  refine bw_enter rfl (Nat.le_of_ble_eq_true rfl) ?_
  refine bw_aload_n (i := 0) dX12_says_0 rfl rfl ?_
  refine bw_getr (r := 71) fg_BentWordsModel_71 rfl rfl dX12_says_1 ?_
  refine bw_aload_n (i := 0) dX12_says_4 rfl rfl ?_
  refine bw_geti fg_BentWordsModel_308 rfl dX12_says_5 ?_
  refine bw_iload_n (i := 1) dX12_says_8 rfl rfl ?_
  obtain ⟨hi1, h⟩ := h
  refine bw_iastore rfl hi1 dX12_says_9 ?_
  refine bw_aload_n (i := 0) dX12_says_10 rfl rfl ?_
  refine bw_dup dX12_says_11 rfl ?_
  refine bw_geti fg_BentWordsModel_308 rfl dX12_says_12 ?_
  rw [show gw_i (sw_i w 71 ((gw_i w 50 37).toNatClampNeg) a0) 50 37 = (gw_i w 50 37) from rfl]
  refine bw_iconst (v := 1) dX12_says_15 (by decide) ?_
  refine bw_iadd dX12_says_16 ?_
  refine bw_puti fp_BentWordsModel_308 rfl rfl rfl dX12_says_17 ?_
  exact bw_return dX12_says_20 rfl ⟨rfl, h⟩
theorem fs_X12_says {E : bw_E} {d : Nat} {w : bw_W} {Q : bw_W → Prop} {a0 : Int32}  (hc0 : (vp_in (gw_i w 50 37) 200)) (h : Q (sw_i (sw_i w 71 ((gw_i w 50 37).toNatClampNeg) a0) 50 37 ((gw_i w 50 37) + 1))) : bw_rv E (d + 0) mX12_says [.ref 50, .int a0] w Q := by
  refine wfX12_says  ?_
  refine ⟨hc0 , ?_⟩
  exact h
theorem wfX12_fails {E : bw_E} {d : Nat} {w : bw_W} {Q : bw_W → Prop} {a0 : Int32} {a1 : Int32} {a2 : Int32}  (h : Q (sw_i (sw_i (sw_i w 50 38 a0) 50 39 a1) 50 40 a2)) : bw_rv E (d + 0) mX12_fails [.ref 50, .int a0, .int a1, .int a2] w Q := by
  refine bw_enter rfl (Nat.le_of_ble_eq_true rfl) ?_
  refine bw_aload_n (i := 0) dX12_fails_0 rfl rfl ?_
  refine bw_iload_n (i := 1) dX12_fails_1 rfl rfl ?_
  refine bw_puti fp_BentWordsModel_321 rfl rfl rfl dX12_fails_2 ?_
  refine bw_aload_n (i := 0) dX12_fails_5 rfl rfl ?_
  refine bw_iload_n (i := 2) dX12_fails_6 rfl rfl ?_
  refine bw_puti fp_BentWordsModel_324 rfl rfl rfl dX12_fails_7 ?_
  refine bw_aload_n (i := 0) dX12_fails_10 rfl rfl ?_
  refine bw_iload_n (i := 3) dX12_fails_11 rfl rfl ?_
  refine bw_puti fp_BentWordsModel_327 rfl rfl rfl dX12_fails_12 ?_
  exact bw_return dX12_fails_15 rfl ⟨rfl, h⟩
theorem fs_X12_fails {E : bw_E} {d : Nat} {w : bw_W} {Q : bw_W → Prop} {a0 : Int32} {a1 : Int32} {a2 : Int32}   (h : Q (sw_i (sw_i (sw_i w 50 38 a0) 50 39 a1) 50 40 a2)) : bw_rv E (d + 0) mX12_fails [.ref 50, .int a0, .int a1, .int a2] w Q := by
  refine wfX12_fails  ?_
  exact h
theorem wfX12_formsOf_4 {E : bw_E} {d : Nat} {w : bw_W} {Q : Int32 → bw_W → Prop} {l1 : Int32} {l2 : Int32} {l3 : Int32}  (h : ((8 ≤ l3 → Q l2 w) ∧ (¬ (8 ≤ l3) → (vp_in ((7 + (8 * l1)) + l3) 236) ∧
(((gw_l w 63 (((7 + (8 * l1)) + l3).toNatClampNeg)) = 0 → bw_G E (d + 0) mX12_formsOf 4 [some (.ref 50), some (.int l1), some (.int (l2 + 0)), some (.int (l3 + 1))] [] w (bw_qi Q)) ∧ (¬ (gw_l w 63 (((7 + (8 * l1)) + l3).toNatClampNeg)) = 0 → bw_G E (d + 0) mX12_formsOf 4 [some (.ref 50), some (.int l1), some (.int (l2 + 1)), some (.int (l3 + 1))] [] w (bw_qi Q)))))) : bw_G E (d + 0) mX12_formsOf 4 [some (.ref 50), some (.int l1), some (.int l2), some (.int l3)] [] w (bw_qi Q) := by
  refine bw_iload_n (i := 3) dX12_formsOf_4 rfl rfl ?_
  refine bw_bipush (v := 8) dX12_formsOf_5 (by decide) ?_
  refine bw_icmp_ge (tgt := 43) dX12_formsOf_7 (by decide) (fun c => ?_) (fun c => ?_)
  · replace h := h.1 (c)
    refine bw_iload_n (i := 2) dX12_formsOf_43 rfl rfl ?_
    exact bw_ireturn dX12_formsOf_44 rfl rfl ⟨_, rfl, h⟩
  · replace h := h.2 (c)
    refine bw_iload_n (i := 2) dX12_formsOf_10 rfl rfl ?_
    refine bw_aload_n (i := 0) dX12_formsOf_11 rfl rfl ?_
    refine bw_getr (r := 63) fg_BentWordsModel_47 rfl rfl dX12_formsOf_12 ?_
    refine bw_bipush (v := 7) dX12_formsOf_15 (by decide) ?_
    refine bw_bipush (v := 8) dX12_formsOf_17 (by decide) ?_
    refine bw_iload_n (i := 1) dX12_formsOf_19 rfl rfl ?_
    refine bw_imul dX12_formsOf_20 ?_
    refine bw_iadd dX12_formsOf_21 ?_
    refine bw_iload_n (i := 3) dX12_formsOf_22 rfl rfl ?_
    refine bw_iadd dX12_formsOf_23 ?_
    obtain ⟨hi1, h⟩ := h
    refine bw_laload rfl hi1 dX12_formsOf_24 ?_
    refine bw_lconst (v := 0) dX12_formsOf_25 rfl ?_
    refine bw_lcmp_eq (tgt := 34) dX12_formsOf_26 dX12_formsOf_27 (by decide) (fun c => ?_) (fun c => ?_)
    · replace h := h.1 (c)
      refine bw_iconst (v := 0) dX12_formsOf_34 (by decide) ?_
      refine bw_iadd dX12_formsOf_35 ?_
      refine bw_istore_n (i := 2) (L' := [some (.ref 50), some (.int l1), some (.int (l2 + 0)), some (.int l3)]) dX12_formsOf_36 rfl (Nat.le_of_ble_eq_true rfl) rfl ?_
      refine bw_iinc (i := 3) (x := l3) (v := (l3 + 1)) (L' := [some (.ref 50), some (.int l1), some (.int (l2 + 0)), some (.int (l3 + 1))]) dX12_formsOf_37 rfl rfl (Nat.le_of_ble_eq_true rfl) rfl ?_
      refine bw_goto (tgt := 4) dX12_formsOf_40 (by decide) ?_
      exact h
    · replace h := h.2 (c)
      refine bw_iconst (v := 1) dX12_formsOf_30 (by decide) ?_
      refine bw_goto (tgt := 35) dX12_formsOf_31 (by decide) ?_
      refine bw_iadd dX12_formsOf_35 ?_
      refine bw_istore_n (i := 2) (L' := [some (.ref 50), some (.int l1), some (.int (l2 + 1)), some (.int l3)]) dX12_formsOf_36 rfl (Nat.le_of_ble_eq_true rfl) rfl ?_
      refine bw_iinc (i := 3) (x := l3) (v := (l3 + 1)) (L' := [some (.ref 50), some (.int l1), some (.int (l2 + 1)), some (.int (l3 + 1))]) dX12_formsOf_37 rfl rfl (Nat.le_of_ble_eq_true rfl) rfl ?_
      refine bw_goto (tgt := 4) dX12_formsOf_40 (by decide) ?_
      exact h
theorem wfX12_formsOf {E : bw_E} {d : Nat} {w : bw_W} {Q : Int32 → bw_W → Prop} {a0 : Int32}  (h : bw_G E (d + 0) mX12_formsOf 4 [some (.ref 50), some (.int a0), some (.int 0), some (.int 0)] [] w (bw_qi Q)) : bw_ri E (d + 0) mX12_formsOf [.ref 50, .int a0] w Q := by
  refine bw_enter rfl (Nat.le_of_ble_eq_true rfl) ?_
  refine bw_iconst (v := 0) dX12_formsOf_0 (by decide) ?_
  refine bw_istore_n (i := 2) (L' := [some (.ref 50), some (.int a0), some (.int 0), none]) dX12_formsOf_1 rfl (Nat.le_of_ble_eq_true rfl) rfl ?_
  refine bw_iconst (v := 0) dX12_formsOf_2 (by decide) ?_
  refine bw_istore_n (i := 3) (L' := [some (.ref 50), some (.int a0), some (.int 0), some (.int 0)]) dX12_formsOf_3 rfl (Nat.le_of_ble_eq_true rfl) rfl ?_
  exact h
theorem wfX12_keep_13 {E : bw_E} {d : Nat} {w : bw_W} {Q : bw_W → Prop} {l1 : Int32}  (h : ((9440 ≤ l1 → bw_G E (d + 0) mX12_keep 54 [some (.ref 50), some (.int 0)] [] (sw_i w 50 42 ((gw_i w 50 42) - 1)) (bw_qv Q)) ∧ (¬ (9440 ≤ l1) → (vp_in l1 9440) ∧
(vp_in (l1 - 236) 9440) ∧
bw_G E (d + 0) mX12_keep 13 [some (.ref 50), some (.int (l1 + 1))] [] (sw_l w 72 ((l1 - 236).toNatClampNeg) (gw_l w 72 (l1.toNatClampNeg))) (bw_qv Q)))) : bw_G E (d + 0) mX12_keep 13 [some (.ref 50), some (.int l1)] [] w (bw_qv Q) := by
  refine bw_iload_n (i := 1) dX12_keep_13 rfl rfl ?_
  refine bw_sipush (v := 9440) dX12_keep_14 (by decide) ?_
  refine bw_icmp_ge (tgt := 42) dX12_keep_17 (by decide) (fun c => ?_) (fun c => ?_)
  · replace h := h.1 (c)
    refine bw_aload_n (i := 0) dX12_keep_42 rfl rfl ?_
    refine bw_dup dX12_keep_43 rfl ?_
    refine bw_geti fg_BentWordsModel_283 rfl dX12_keep_44 ?_
    refine bw_iconst (v := 1) dX12_keep_47 (by decide) ?_
    refine bw_isub dX12_keep_48 ?_
    refine bw_puti fp_BentWordsModel_283 rfl rfl rfl dX12_keep_49 ?_
    refine bw_iconst (v := 0) dX12_keep_52 (by decide) ?_
    refine bw_istore_n (i := 1) (L' := [some (.ref 50), some (.int 0)]) dX12_keep_53 rfl (Nat.le_of_ble_eq_true rfl) rfl ?_
    exact h
  · replace h := h.2 (c)
    refine bw_aload_n (i := 0) dX12_keep_20 rfl rfl ?_
    refine bw_getr (r := 72) fg_BentWordsModel_74 rfl rfl dX12_keep_21 ?_
    refine bw_iload_n (i := 1) dX12_keep_24 rfl rfl ?_
    refine bw_sipush (v := 236) dX12_keep_25 (by decide) ?_
    refine bw_isub dX12_keep_28 ?_
    refine bw_aload_n (i := 0) dX12_keep_29 rfl rfl ?_
    refine bw_getr (r := 72) fg_BentWordsModel_74 rfl rfl dX12_keep_30 ?_
    refine bw_iload_n (i := 1) dX12_keep_33 rfl rfl ?_
    obtain ⟨hi1, h⟩ := h
    refine bw_laload rfl hi1 dX12_keep_34 ?_
    obtain ⟨hi2, h⟩ := h
    refine bw_lastore rfl hi2 dX12_keep_35 ?_
    refine bw_iinc (i := 1) (x := l1) (v := (l1 + 1)) (L' := [some (.ref 50), some (.int (l1 + 1))]) dX12_keep_36 rfl rfl (Nat.le_of_ble_eq_true rfl) rfl ?_
    refine bw_goto (tgt := 13) dX12_keep_39 (by decide) ?_
    exact h
theorem wfX12_keep_54 {E : bw_E} {d : Nat} {w : bw_W} {Q : bw_W → Prop} {l1 : Int32}  (h : ((236 ≤ l1 → Q (sw_i w 50 42 ((gw_i w 50 42) + 1))) ∧ (¬ (236 ≤ l1) → (vp_in l1 236) ∧
(vp_in ((236 * (gw_i w 50 42)) + l1) 9440) ∧
bw_G E (d + 0) mX12_keep 54 [some (.ref 50), some (.int (l1 + 1))] [] (sw_l w 72 (((236 * (gw_i w 50 42)) + l1).toNatClampNeg) (gw_l w 63 (l1.toNatClampNeg))) (bw_qv Q)))) : bw_G E (d + 0) mX12_keep 54 [some (.ref 50), some (.int l1)] [] w (bw_qv Q) := by
  refine bw_iload_n (i := 1) dX12_keep_54 rfl rfl ?_
  refine bw_sipush (v := 236) dX12_keep_55 (by decide) ?_
  refine bw_icmp_ge (tgt := 88) dX12_keep_58 (by decide) (fun c => ?_) (fun c => ?_)
  · replace h := h.1 (c)
    refine bw_aload_n (i := 0) dX12_keep_88 rfl rfl ?_
    refine bw_dup dX12_keep_89 rfl ?_
    refine bw_geti fg_BentWordsModel_283 rfl dX12_keep_90 ?_
    refine bw_iconst (v := 1) dX12_keep_93 (by decide) ?_
    refine bw_iadd dX12_keep_94 ?_
    refine bw_puti fp_BentWordsModel_283 rfl rfl rfl dX12_keep_95 ?_
    exact bw_return dX12_keep_98 rfl ⟨rfl, h⟩
  · replace h := h.2 (c)
    refine bw_aload_n (i := 0) dX12_keep_61 rfl rfl ?_
    refine bw_getr (r := 72) fg_BentWordsModel_74 rfl rfl dX12_keep_62 ?_
    refine bw_sipush (v := 236) dX12_keep_65 (by decide) ?_
    refine bw_aload_n (i := 0) dX12_keep_68 rfl rfl ?_
    refine bw_geti fg_BentWordsModel_283 rfl dX12_keep_69 ?_
    refine bw_imul dX12_keep_72 ?_
    refine bw_iload_n (i := 1) dX12_keep_73 rfl rfl ?_
    refine bw_iadd dX12_keep_74 ?_
    refine bw_aload_n (i := 0) dX12_keep_75 rfl rfl ?_
    refine bw_getr (r := 63) fg_BentWordsModel_47 rfl rfl dX12_keep_76 ?_
    refine bw_iload_n (i := 1) dX12_keep_79 rfl rfl ?_
    obtain ⟨hi1, h⟩ := h
    refine bw_laload rfl hi1 dX12_keep_80 ?_
    obtain ⟨hi2, h⟩ := h
    refine bw_lastore rfl hi2 dX12_keep_81 ?_
    refine bw_iinc (i := 1) (x := l1) (v := (l1 + 1)) (L' := [some (.ref 50), some (.int (l1 + 1))]) dX12_keep_82 rfl rfl (Nat.le_of_ble_eq_true rfl) rfl ?_
    refine bw_goto (tgt := 54) dX12_keep_85 (by decide) ?_
    exact h
theorem wfX12_keep {E : bw_E} {d : Nat} {w : bw_W} {Q : bw_W → Prop}   (h : ((¬ (gw_i w 50 42) = 40 → bw_G E (d + 0) mX12_keep 54 [some (.ref 50), some (.int 0)] [] w (bw_qv Q)) ∧ ((gw_i w 50 42) = 40 → bw_G E (d + 0) mX12_keep 13 [some (.ref 50), some (.int 236)] [] w (bw_qv Q)))) : bw_rv E (d + 0) mX12_keep [.ref 50] w Q := by
  refine bw_enter rfl (Nat.le_of_ble_eq_true rfl) ?_
  refine bw_aload_n (i := 0) dX12_keep_0 rfl rfl ?_
  refine bw_geti fg_BentWordsModel_283 rfl dX12_keep_1 ?_
  refine bw_bipush (v := 40) dX12_keep_4 (by decide) ?_
  refine bw_icmp_ne (tgt := 52) dX12_keep_6 (by decide) (fun c => ?_) (fun c => ?_)
  · replace h := h.1 (c)
    refine bw_iconst (v := 0) dX12_keep_52 (by decide) ?_
    refine bw_istore_n (i := 1) (L' := [some (.ref 50), some (.int 0)]) dX12_keep_53 rfl (Nat.le_of_ble_eq_true rfl) rfl ?_
    exact h
  · replace h := h.2 (c)
    refine bw_sipush (v := 236) dX12_keep_9 (by decide) ?_
    refine bw_istore_n (i := 1) (L' := [some (.ref 50), some (.int 236)]) dX12_keep_12 rfl (Nat.le_of_ble_eq_true rfl) rfl ?_
    exact h
theorem wfX12_draw {E : bw_E} {d : Nat} {w : bw_W} {Q : Int32 → bw_W → Prop} {a0 : Int32}  (h : (¬ (a0.toInt64) = 0) ∧
Q (((((((gw_l w 50 43) * 6364136223846793005) + 1442695040888963407).toUInt64 >>> ((33 : Int32).toInt64.toUInt64 &&& Int64.toUInt64 63)).toInt64) - (((((gw_l w 50 43) * 6364136223846793005) + 1442695040888963407).toUInt64 >>> ((33 : Int32).toInt64.toUInt64 &&& Int64.toUInt64 63)).toInt64) / (a0.toInt64) * (a0.toInt64)).toInt32) (sw_l w 50 43 (((gw_l w 50 43) * 6364136223846793005) + 1442695040888963407))) : bw_ri E (d + 0) mX12_draw [.ref 50, .int a0] w Q := by
  refine bw_enter rfl (Nat.le_of_ble_eq_true rfl) ?_
  refine bw_aload_n (i := 0) dX12_draw_0 rfl rfl ?_
  refine bw_aload_n (i := 0) dX12_draw_1 rfl rfl ?_
  refine bw_getl fg_BentWordsModel_423 rfl dX12_draw_2 ?_
  refine bw_ldc2 kl_BentWordsModel_426 dX12_draw_5 ?_
  refine bw_lmul dX12_draw_8 ?_
  refine bw_ldc2 kl_BentWordsModel_428 dX12_draw_9 ?_
  refine bw_ladd dX12_draw_12 ?_
  refine bw_putl fp_BentWordsModel_423 rfl dX12_draw_13 ?_
  refine bw_aload_n (i := 0) dX12_draw_16 rfl rfl ?_
  refine bw_getl fg_BentWordsModel_423 rfl dX12_draw_17 ?_
  rw [show gw_l (sw_l w 50 43 (((gw_l w 50 43) * 6364136223846793005) + 1442695040888963407)) 50 43 = (((gw_l w 50 43) * 6364136223846793005) + 1442695040888963407) from rfl]
  refine bw_bipush (v := 33) dX12_draw_20 (by decide) ?_
  refine bw_lushr dX12_draw_22 ?_
  refine bw_iload_n (i := 1) dX12_draw_23 rfl rfl ?_
  refine bw_i2l dX12_draw_24 ?_
  obtain ⟨hz1, h⟩ := h
  refine bw_lrem dX12_draw_25 hz1 ?_
  refine bw_l2i dX12_draw_26 ?_
  exact bw_ireturn dX12_draw_27 rfl rfl ⟨_, rfl, h⟩
def vX12_draw (w : bw_W) (a0 : Int32) : Int32 := (((((((gw_l w 50 43) * 6364136223846793005) + 1442695040888963407).toUInt64 >>> ((33 : Int32).toInt64.toUInt64 &&& Int64.toUInt64 63)).toInt64) - (((((gw_l w 50 43) * 6364136223846793005) + 1442695040888963407).toUInt64 >>> ((33 : Int32).toInt64.toUInt64 &&& Int64.toUInt64 63)).toInt64) / (a0.toInt64) * (a0.toInt64)).toInt32)
theorem fs_X12_draw {E : bw_E} {d : Nat} {w : bw_W} {Q : Int32 → bw_W → Prop} {a0 : Int32}  (hc0 : (¬ (a0.toInt64) = 0)) (h : Q (vX12_draw w a0) (sw_l w 50 43 (((gw_l w 50 43) * 6364136223846793005) + 1442695040888963407))) : bw_ri E (d + 0) mX12_draw [.ref 50, .int a0] w Q := by
  refine wfX12_draw  ?_
  refine ⟨hc0 , ?_⟩
  exact h
theorem wfX12_undo_21 {E : bw_E} {d : Nat} {w : bw_W} {Q : Int32 → bw_W → Prop} {l1 : Int32}  (h : ((236 ≤ l1 → Q (gw_i w 50 42) w) ∧ (¬ (236 ≤ l1) → (vp_in ((236 * (gw_i w 50 42)) + l1) 9440) ∧
(vp_in l1 236) ∧
bw_G E (d + 0) mX12_undo 21 [some (.ref 50), some (.int (l1 + 1))] [] (sw_l w 63 (l1.toNatClampNeg) (gw_l w 72 (((236 * (gw_i w 50 42)) + l1).toNatClampNeg))) (bw_qi Q)))) : bw_G E (d + 0) mX12_undo 21 [some (.ref 50), some (.int l1)] [] w (bw_qi Q) := by
  refine bw_iload_n (i := 1) dX12_undo_21 rfl rfl ?_
  refine bw_sipush (v := 236) dX12_undo_22 (by decide) ?_
  refine bw_icmp_ge (tgt := 55) dX12_undo_25 (by decide) (fun c => ?_) (fun c => ?_)
  · replace h := h.1 (c)
    refine bw_aload_n (i := 0) dX12_undo_55 rfl rfl ?_
    refine bw_geti fg_BentWordsModel_283 rfl dX12_undo_56 ?_
    exact bw_ireturn dX12_undo_59 rfl rfl ⟨_, rfl, h⟩
  · replace h := h.2 (c)
    refine bw_aload_n (i := 0) dX12_undo_28 rfl rfl ?_
    refine bw_getr (r := 63) fg_BentWordsModel_47 rfl rfl dX12_undo_29 ?_
    refine bw_iload_n (i := 1) dX12_undo_32 rfl rfl ?_
    refine bw_aload_n (i := 0) dX12_undo_33 rfl rfl ?_
    refine bw_getr (r := 72) fg_BentWordsModel_74 rfl rfl dX12_undo_34 ?_
    refine bw_sipush (v := 236) dX12_undo_37 (by decide) ?_
    refine bw_aload_n (i := 0) dX12_undo_40 rfl rfl ?_
    refine bw_geti fg_BentWordsModel_283 rfl dX12_undo_41 ?_
    refine bw_imul dX12_undo_44 ?_
    refine bw_iload_n (i := 1) dX12_undo_45 rfl rfl ?_
    refine bw_iadd dX12_undo_46 ?_
    obtain ⟨hi1, h⟩ := h
    refine bw_laload rfl hi1 dX12_undo_47 ?_
    obtain ⟨hi2, h⟩ := h
    refine bw_lastore rfl hi2 dX12_undo_48 ?_
    refine bw_iinc (i := 1) (x := l1) (v := (l1 + 1)) (L' := [some (.ref 50), some (.int (l1 + 1))]) dX12_undo_49 rfl rfl (Nat.le_of_ble_eq_true rfl) rfl ?_
    refine bw_goto (tgt := 21) dX12_undo_52 (by decide) ?_
    exact h
theorem wfX12_undo {E : bw_E} {d : Nat} {w : bw_W} {Q : Int32 → bw_W → Prop}   (h : ((¬ (gw_i w 50 42) = 0 → bw_G E (d + 0) mX12_undo 21 [some (.ref 50), some (.int 0)] [] (sw_i w 50 42 ((gw_i w 50 42) - 1)) (bw_qi Q)) ∧ ((gw_i w 50 42) = 0 → Q (-1) w))) : bw_ri E (d + 0) mX12_undo [.ref 50] w Q := by
  refine bw_enter rfl (Nat.le_of_ble_eq_true rfl) ?_
  refine bw_aload_n (i := 0) dX12_undo_0 rfl rfl ?_
  refine bw_geti fg_BentWordsModel_283 rfl dX12_undo_1 ?_
  refine bw_if_ne (tgt := 9) dX12_undo_4 (by decide) (fun c => ?_) (fun c => ?_)
  · replace h := h.1 (c)
    refine bw_aload_n (i := 0) dX12_undo_9 rfl rfl ?_
    refine bw_dup dX12_undo_10 rfl ?_
    refine bw_geti fg_BentWordsModel_283 rfl dX12_undo_11 ?_
    refine bw_iconst (v := 1) dX12_undo_14 (by decide) ?_
    refine bw_isub dX12_undo_15 ?_
    refine bw_puti fp_BentWordsModel_283 rfl rfl rfl dX12_undo_16 ?_
    refine bw_iconst (v := 0) dX12_undo_19 (by decide) ?_
    refine bw_istore_n (i := 1) (L' := [some (.ref 50), some (.int 0)]) dX12_undo_20 rfl (Nat.le_of_ble_eq_true rfl) rfl ?_
    exact h
  · replace h := h.2 (c)
    refine bw_iconst (v := (-1)) dX12_undo_7 (by decide) ?_
    exact bw_ireturn dX12_undo_8 rfl rfl ⟨_, rfl, h⟩
theorem wfX12_wordsTold_4 {E : bw_E} {d : Nat} {w : bw_W} {Q : Int32 → bw_W → Prop} {l1 : Int32} {l2 : Int32} {l3 : Int32}  (h : ((24 ≤ l3 → Q l2 w) ∧ (¬ (24 ≤ l3) → (vp_in (l1 + l3) 48) ∧
(((gw_l w 67 ((l1 + l3).toNatClampNeg)) = 0 → bw_G E (d + 0) mX12_wordsTold 4 [some (.ref 50), some (.int l1), some (.int (l2 + 0)), some (.int (l3 + 1))] [] w (bw_qi Q)) ∧ (¬ (gw_l w 67 ((l1 + l3).toNatClampNeg)) = 0 → bw_G E (d + 0) mX12_wordsTold 4 [some (.ref 50), some (.int l1), some (.int (l2 + 1)), some (.int (l3 + 1))] [] w (bw_qi Q)))))) : bw_G E (d + 0) mX12_wordsTold 4 [some (.ref 50), some (.int l1), some (.int l2), some (.int l3)] [] w (bw_qi Q) := by
  refine bw_iload_n (i := 3) dX12_wordsTold_4 rfl rfl ?_
  refine bw_bipush (v := 24) dX12_wordsTold_5 (by decide) ?_
  refine bw_icmp_ge (tgt := 37) dX12_wordsTold_7 (by decide) (fun c => ?_) (fun c => ?_)
  · replace h := h.1 (c)
    refine bw_iload_n (i := 2) dX12_wordsTold_37 rfl rfl ?_
    exact bw_ireturn dX12_wordsTold_38 rfl rfl ⟨_, rfl, h⟩
  · replace h := h.2 (c)
    refine bw_iload_n (i := 2) dX12_wordsTold_10 rfl rfl ?_
    refine bw_aload_n (i := 0) dX12_wordsTold_11 rfl rfl ?_
    refine bw_getr (r := 67) fg_BentWordsModel_59 rfl rfl dX12_wordsTold_12 ?_
    refine bw_iload_n (i := 1) dX12_wordsTold_15 rfl rfl ?_
    refine bw_iload_n (i := 3) dX12_wordsTold_16 rfl rfl ?_
    refine bw_iadd dX12_wordsTold_17 ?_
    obtain ⟨hi1, h⟩ := h
    refine bw_laload rfl hi1 dX12_wordsTold_18 ?_
    refine bw_lconst (v := 0) dX12_wordsTold_19 rfl ?_
    refine bw_lcmp_eq (tgt := 28) dX12_wordsTold_20 dX12_wordsTold_21 (by decide) (fun c => ?_) (fun c => ?_)
    · replace h := h.1 (c)
      refine bw_iconst (v := 0) dX12_wordsTold_28 (by decide) ?_
      refine bw_iadd dX12_wordsTold_29 ?_
      refine bw_istore_n (i := 2) (L' := [some (.ref 50), some (.int l1), some (.int (l2 + 0)), some (.int l3)]) dX12_wordsTold_30 rfl (Nat.le_of_ble_eq_true rfl) rfl ?_
      refine bw_iinc (i := 3) (x := l3) (v := (l3 + 1)) (L' := [some (.ref 50), some (.int l1), some (.int (l2 + 0)), some (.int (l3 + 1))]) dX12_wordsTold_31 rfl rfl (Nat.le_of_ble_eq_true rfl) rfl ?_
      refine bw_goto (tgt := 4) dX12_wordsTold_34 (by decide) ?_
      exact h
    · replace h := h.2 (c)
      refine bw_iconst (v := 1) dX12_wordsTold_24 (by decide) ?_
      refine bw_goto (tgt := 29) dX12_wordsTold_25 (by decide) ?_
      refine bw_iadd dX12_wordsTold_29 ?_
      refine bw_istore_n (i := 2) (L' := [some (.ref 50), some (.int l1), some (.int (l2 + 1)), some (.int l3)]) dX12_wordsTold_30 rfl (Nat.le_of_ble_eq_true rfl) rfl ?_
      refine bw_iinc (i := 3) (x := l3) (v := (l3 + 1)) (L' := [some (.ref 50), some (.int l1), some (.int (l2 + 1)), some (.int (l3 + 1))]) dX12_wordsTold_31 rfl rfl (Nat.le_of_ble_eq_true rfl) rfl ?_
      refine bw_goto (tgt := 4) dX12_wordsTold_34 (by decide) ?_
      exact h
theorem wfX12_wordsTold {E : bw_E} {d : Nat} {w : bw_W} {Q : Int32 → bw_W → Prop} {a0 : Int32}  (h : bw_G E (d + 0) mX12_wordsTold 4 [some (.ref 50), some (.int a0), some (.int 0), some (.int 0)] [] w (bw_qi Q)) : bw_ri E (d + 0) mX12_wordsTold [.ref 50, .int a0] w Q := by
  refine bw_enter rfl (Nat.le_of_ble_eq_true rfl) ?_
  refine bw_iconst (v := 0) dX12_wordsTold_0 (by decide) ?_
  refine bw_istore_n (i := 2) (L' := [some (.ref 50), some (.int a0), some (.int 0), none]) dX12_wordsTold_1 rfl (Nat.le_of_ble_eq_true rfl) rfl ?_
  refine bw_iconst (v := 0) dX12_wordsTold_2 (by decide) ?_
  refine bw_istore_n (i := 3) (L' := [some (.ref 50), some (.int a0), some (.int 0), some (.int 0)]) dX12_wordsTold_3 rfl (Nat.le_of_ble_eq_true rfl) rfl ?_
  exact h
