theorem wfX12_askedBy_4 {E : bw_E} {d : Nat} {w : bw_W} {Q : Int32 → bw_W → Prop} {l1 : Int32} {l2 : Int32} {l3 : Int32}  (h : (vp_in l1 4) ∧
(((gw_i w 68 (l1.toNatClampNeg)) ≤ l3 → Q l2 w) ∧ (¬ ((gw_i w 68 (l1.toNatClampNeg)) ≤ l3) → (vp_in (3 * ((8 * l1) + l3)) 96) ∧
((¬ (gw_i w 69 ((3 * ((8 * l1) + l3)).toNatClampNeg)) = 0 → (vp_in ((3 * ((8 * l1) + l3)) + 1) 96) ∧
(vp_in (3 * ((8 * l1) + l3)) 96) ∧
(((gw_i w 69 ((3 * ((8 * l1) + l3)).toNatClampNeg)) < 5 → bw_G E (d + 0) mX12_askedBy 4 [some (.ref 50), some (.int l1), some (.int ((l2 ||| ((1 : Int32) <<< ((gw_i w 69 (((3 * ((8 * l1) + l3)) + 1).toNatClampNeg)) &&& 31))) ||| 0)), some (.int (l3 + 1)), none] [] w (bw_qi Q)) ∧ (¬ ((gw_i w 69 ((3 * ((8 * l1) + l3)).toNatClampNeg)) < 5) → (vp_in ((3 * ((8 * l1) + l3)) + 2) 96) ∧
bw_G E (d + 0) mX12_askedBy 4 [some (.ref 50), some (.int l1), some (.int ((l2 ||| ((1 : Int32) <<< ((gw_i w 69 (((3 * ((8 * l1) + l3)) + 1).toNatClampNeg)) &&& 31))) ||| ((1 : Int32) <<< ((gw_i w 69 (((3 * ((8 * l1) + l3)) + 2).toNatClampNeg)) &&& 31)))), some (.int (l3 + 1)), none] [] w (bw_qi Q)))) ∧ ((gw_i w 69 ((3 * ((8 * l1) + l3)).toNatClampNeg)) = 0 → (vp_in (3 * ((8 * l1) + l3)) 96) ∧
(((gw_i w 69 ((3 * ((8 * l1) + l3)).toNatClampNeg)) < 5 → bw_G E (d + 0) mX12_askedBy 4 [some (.ref 50), some (.int l1), some (.int ((l2 ||| 0) ||| 0)), some (.int (l3 + 1)), none] [] w (bw_qi Q)) ∧ (¬ ((gw_i w 69 ((3 * ((8 * l1) + l3)).toNatClampNeg)) < 5) → (vp_in ((3 * ((8 * l1) + l3)) + 2) 96) ∧
bw_G E (d + 0) mX12_askedBy 4 [some (.ref 50), some (.int l1), some (.int ((l2 ||| 0) ||| ((1 : Int32) <<< ((gw_i w 69 (((3 * ((8 * l1) + l3)) + 2).toNatClampNeg)) &&& 31)))), some (.int (l3 + 1)), none] [] w (bw_qi Q)))))))) : bw_G E (d + 0) mX12_askedBy 4 [some (.ref 50), some (.int l1), some (.int l2), some (.int l3), none] [] w (bw_qi Q) := by
  refine bw_iload_n (i := 3) dX12_askedBy_4 rfl rfl ?_
  refine bw_aload_n (i := 0) dX12_askedBy_5 rfl rfl ?_
  refine bw_getr (r := 68) fg_BentWordsModel_62 rfl rfl dX12_askedBy_6 ?_
  refine bw_iload_n (i := 1) dX12_askedBy_9 rfl rfl ?_
  obtain ⟨hi1, h⟩ := h
  refine bw_iaload rfl hi1 dX12_askedBy_10 ?_
  refine bw_icmp_ge (tgt := 87) dX12_askedBy_11 (by decide) (fun c => ?_) (fun c => ?_)
  · replace h := h.1 (c)
    refine bw_iload_n (i := 2) dX12_askedBy_87 rfl rfl ?_
    exact bw_ireturn dX12_askedBy_88 rfl rfl ⟨_, rfl, h⟩
  · replace h := h.2 (c)
    refine bw_iconst (v := 3) dX12_askedBy_14 (by decide) ?_
    refine bw_bipush (v := 8) dX12_askedBy_15 (by decide) ?_
    refine bw_iload_n (i := 1) dX12_askedBy_17 rfl rfl ?_
    refine bw_imul dX12_askedBy_18 ?_
    refine bw_iload_n (i := 3) dX12_askedBy_19 rfl rfl ?_
    refine bw_iadd dX12_askedBy_20 ?_
    refine bw_imul dX12_askedBy_21 ?_
    refine bw_istore (i := 4) (L' := [some (.ref 50), some (.int l1), some (.int l2), some (.int l3), some (.int (3 * ((8 * l1) + l3)))]) dX12_askedBy_22 (Nat.le_of_ble_eq_true rfl) rfl ?_
    refine bw_iload_n (i := 2) dX12_askedBy_24 rfl rfl ?_
    refine bw_aload_n (i := 0) dX12_askedBy_25 rfl rfl ?_
    refine bw_getr (r := 69) fg_BentWordsModel_65 rfl rfl dX12_askedBy_26 ?_
    refine bw_iload dX12_askedBy_29 rfl ?_
    obtain ⟨hi2, h⟩ := h
    refine bw_iaload rfl hi2 dX12_askedBy_31 ?_
    refine bw_if_ne (tgt := 39) dX12_askedBy_32 (by decide) (fun c => ?_) (fun c => ?_)
    · replace h := h.1 (c)
      refine bw_iconst (v := 1) dX12_askedBy_39 (by decide) ?_
      refine bw_aload_n (i := 0) dX12_askedBy_40 rfl rfl ?_
      refine bw_getr (r := 69) fg_BentWordsModel_65 rfl rfl dX12_askedBy_41 ?_
      refine bw_iload dX12_askedBy_44 rfl ?_
      refine bw_iconst (v := 1) dX12_askedBy_46 (by decide) ?_
      refine bw_iadd dX12_askedBy_47 ?_
      obtain ⟨hi3, h⟩ := h
      refine bw_iaload rfl hi3 dX12_askedBy_48 ?_
      refine bw_ishl dX12_askedBy_49 ?_
      refine bw_ior dX12_askedBy_50 ?_
      refine bw_istore_n (i := 2) (L' := [some (.ref 50), some (.int l1), some (.int (l2 ||| ((1 : Int32) <<< ((gw_i w 69 (((3 * ((8 * l1) + l3)) + 1).toNatClampNeg)) &&& 31)))), some (.int l3), some (.int (3 * ((8 * l1) + l3)))]) dX12_askedBy_51 rfl (Nat.le_of_ble_eq_true rfl) rfl ?_
      refine bw_iload_n (i := 2) dX12_askedBy_52 rfl rfl ?_
      refine bw_aload_n (i := 0) dX12_askedBy_53 rfl rfl ?_
      refine bw_getr (r := 69) fg_BentWordsModel_65 rfl rfl dX12_askedBy_54 ?_
      refine bw_iload dX12_askedBy_57 rfl ?_
      obtain ⟨hi4, h⟩ := h
      refine bw_iaload rfl hi4 dX12_askedBy_59 ?_
      refine bw_iconst (v := 5) dX12_askedBy_60 (by decide) ?_
      refine bw_icmp_lt (tgt := 78) dX12_askedBy_61 (by decide) (fun c => ?_) (fun c => ?_)
      · replace h := h.1 (c)
        refine bw_iconst (v := 0) dX12_askedBy_78 (by decide) ?_
        refine bw_ior dX12_askedBy_79 ?_
        refine bw_istore_n (i := 2) (L' := [some (.ref 50), some (.int l1), some (.int ((l2 ||| ((1 : Int32) <<< ((gw_i w 69 (((3 * ((8 * l1) + l3)) + 1).toNatClampNeg)) &&& 31))) ||| 0)), some (.int l3), some (.int (3 * ((8 * l1) + l3)))]) dX12_askedBy_80 rfl (Nat.le_of_ble_eq_true rfl) rfl ?_
        refine bw_iinc (i := 3) (x := l3) (v := (l3 + 1)) (L' := [some (.ref 50), some (.int l1), some (.int ((l2 ||| ((1 : Int32) <<< ((gw_i w 69 (((3 * ((8 * l1) + l3)) + 1).toNatClampNeg)) &&& 31))) ||| 0)), some (.int (l3 + 1)), some (.int (3 * ((8 * l1) + l3)))]) dX12_askedBy_81 rfl rfl (Nat.le_of_ble_eq_true rfl) rfl ?_
        refine bw_goto (tgt := 4) dX12_askedBy_84 (by decide) ?_
        exact bw_wk [4] rfl h
      · replace h := h.2 (c)
        refine bw_iconst (v := 1) dX12_askedBy_64 (by decide) ?_
        refine bw_aload_n (i := 0) dX12_askedBy_65 rfl rfl ?_
        refine bw_getr (r := 69) fg_BentWordsModel_65 rfl rfl dX12_askedBy_66 ?_
        refine bw_iload dX12_askedBy_69 rfl ?_
        refine bw_iconst (v := 2) dX12_askedBy_71 (by decide) ?_
        refine bw_iadd dX12_askedBy_72 ?_
        obtain ⟨hi5, h⟩ := h
        refine bw_iaload rfl hi5 dX12_askedBy_73 ?_
        refine bw_ishl dX12_askedBy_74 ?_
        refine bw_goto (tgt := 79) dX12_askedBy_75 (by decide) ?_
        refine bw_ior dX12_askedBy_79 ?_
        refine bw_istore_n (i := 2) (L' := [some (.ref 50), some (.int l1), some (.int ((l2 ||| ((1 : Int32) <<< ((gw_i w 69 (((3 * ((8 * l1) + l3)) + 1).toNatClampNeg)) &&& 31))) ||| ((1 : Int32) <<< ((gw_i w 69 (((3 * ((8 * l1) + l3)) + 2).toNatClampNeg)) &&& 31)))), some (.int l3), some (.int (3 * ((8 * l1) + l3)))]) dX12_askedBy_80 rfl (Nat.le_of_ble_eq_true rfl) rfl ?_
        refine bw_iinc (i := 3) (x := l3) (v := (l3 + 1)) (L' := [some (.ref 50), some (.int l1), some (.int ((l2 ||| ((1 : Int32) <<< ((gw_i w 69 (((3 * ((8 * l1) + l3)) + 1).toNatClampNeg)) &&& 31))) ||| ((1 : Int32) <<< ((gw_i w 69 (((3 * ((8 * l1) + l3)) + 2).toNatClampNeg)) &&& 31)))), some (.int (l3 + 1)), some (.int (3 * ((8 * l1) + l3)))]) dX12_askedBy_81 rfl rfl (Nat.le_of_ble_eq_true rfl) rfl ?_
        refine bw_goto (tgt := 4) dX12_askedBy_84 (by decide) ?_
        exact bw_wk [4] rfl h
    · replace h := h.2 (c)
      refine bw_iconst (v := 0) dX12_askedBy_35 (by decide) ?_
      refine bw_goto (tgt := 50) dX12_askedBy_36 (by decide) ?_
      refine bw_ior dX12_askedBy_50 ?_
      refine bw_istore_n (i := 2) (L' := [some (.ref 50), some (.int l1), some (.int (l2 ||| 0)), some (.int l3), some (.int (3 * ((8 * l1) + l3)))]) dX12_askedBy_51 rfl (Nat.le_of_ble_eq_true rfl) rfl ?_
      refine bw_iload_n (i := 2) dX12_askedBy_52 rfl rfl ?_
      refine bw_aload_n (i := 0) dX12_askedBy_53 rfl rfl ?_
      refine bw_getr (r := 69) fg_BentWordsModel_65 rfl rfl dX12_askedBy_54 ?_
      refine bw_iload dX12_askedBy_57 rfl ?_
      obtain ⟨hi6, h⟩ := h
      refine bw_iaload rfl hi6 dX12_askedBy_59 ?_
      refine bw_iconst (v := 5) dX12_askedBy_60 (by decide) ?_
      refine bw_icmp_lt (tgt := 78) dX12_askedBy_61 (by decide) (fun c => ?_) (fun c => ?_)
      · replace h := h.1 (c)
        refine bw_iconst (v := 0) dX12_askedBy_78 (by decide) ?_
        refine bw_ior dX12_askedBy_79 ?_
        refine bw_istore_n (i := 2) (L' := [some (.ref 50), some (.int l1), some (.int ((l2 ||| 0) ||| 0)), some (.int l3), some (.int (3 * ((8 * l1) + l3)))]) dX12_askedBy_80 rfl (Nat.le_of_ble_eq_true rfl) rfl ?_
        refine bw_iinc (i := 3) (x := l3) (v := (l3 + 1)) (L' := [some (.ref 50), some (.int l1), some (.int ((l2 ||| 0) ||| 0)), some (.int (l3 + 1)), some (.int (3 * ((8 * l1) + l3)))]) dX12_askedBy_81 rfl rfl (Nat.le_of_ble_eq_true rfl) rfl ?_
        refine bw_goto (tgt := 4) dX12_askedBy_84 (by decide) ?_
        exact bw_wk [4] rfl h
      · replace h := h.2 (c)
        refine bw_iconst (v := 1) dX12_askedBy_64 (by decide) ?_
        refine bw_aload_n (i := 0) dX12_askedBy_65 rfl rfl ?_
        refine bw_getr (r := 69) fg_BentWordsModel_65 rfl rfl dX12_askedBy_66 ?_
        refine bw_iload dX12_askedBy_69 rfl ?_
        refine bw_iconst (v := 2) dX12_askedBy_71 (by decide) ?_
        refine bw_iadd dX12_askedBy_72 ?_
        obtain ⟨hi7, h⟩ := h
        refine bw_iaload rfl hi7 dX12_askedBy_73 ?_
        refine bw_ishl dX12_askedBy_74 ?_
        refine bw_goto (tgt := 79) dX12_askedBy_75 (by decide) ?_
        refine bw_ior dX12_askedBy_79 ?_
        refine bw_istore_n (i := 2) (L' := [some (.ref 50), some (.int l1), some (.int ((l2 ||| 0) ||| ((1 : Int32) <<< ((gw_i w 69 (((3 * ((8 * l1) + l3)) + 2).toNatClampNeg)) &&& 31)))), some (.int l3), some (.int (3 * ((8 * l1) + l3)))]) dX12_askedBy_80 rfl (Nat.le_of_ble_eq_true rfl) rfl ?_
        refine bw_iinc (i := 3) (x := l3) (v := (l3 + 1)) (L' := [some (.ref 50), some (.int l1), some (.int ((l2 ||| 0) ||| ((1 : Int32) <<< ((gw_i w 69 (((3 * ((8 * l1) + l3)) + 2).toNatClampNeg)) &&& 31)))), some (.int (l3 + 1)), some (.int (3 * ((8 * l1) + l3)))]) dX12_askedBy_81 rfl rfl (Nat.le_of_ble_eq_true rfl) rfl ?_
        refine bw_goto (tgt := 4) dX12_askedBy_84 (by decide) ?_
        exact bw_wk [4] rfl h
theorem wfX12_askedBy {E : bw_E} {d : Nat} {w : bw_W} {Q : Int32 → bw_W → Prop} {a0 : Int32}  (h : bw_G E (d + 0) mX12_askedBy 4 [some (.ref 50), some (.int a0), some (.int 0), some (.int 0), none] [] w (bw_qi Q)) : bw_ri E (d + 0) mX12_askedBy [.ref 50, .int a0] w Q := by
  refine bw_enter rfl (Nat.le_of_ble_eq_true rfl) ?_
  refine bw_iconst (v := 0) dX12_askedBy_0 (by decide) ?_
  refine bw_istore_n (i := 2) (L' := [some (.ref 50), some (.int a0), some (.int 0), none, none]) dX12_askedBy_1 rfl (Nat.le_of_ble_eq_true rfl) rfl ?_
  refine bw_iconst (v := 0) dX12_askedBy_2 (by decide) ?_
  refine bw_istore_n (i := 3) (L' := [some (.ref 50), some (.int a0), some (.int 0), some (.int 0), none]) dX12_askedBy_3 rfl (Nat.le_of_ble_eq_true rfl) rfl ?_
  exact h
theorem wfX12_isFormItem {E : bw_E} {d : Nat} {w : bw_W} {Q : Bool → bw_W → Prop} {a0 : Int32}  (h : (vp_in (3 * a0) 96) ∧
(((gw_i w 69 ((3 * a0).toNatClampNeg)) = 1 → Q true w) ∧ (¬ ((gw_i w 69 ((3 * a0).toNatClampNeg)) = 1) → (vp_in (3 * a0) 96) ∧
((¬ (gw_i w 69 ((3 * a0).toNatClampNeg)) = 2 → Q false w) ∧ ((gw_i w 69 ((3 * a0).toNatClampNeg)) = 2 → Q true w))))) : bw_rb E (d + 0) mX12_isFormItem [.ref 50, .int a0] w Q := by
  refine bw_enter rfl (Nat.le_of_ble_eq_true rfl) ?_
  refine bw_aload_n (i := 0) dX12_isFormItem_0 rfl rfl ?_
  refine bw_getr (r := 69) fg_BentWordsModel_65 rfl rfl dX12_isFormItem_1 ?_
  refine bw_iconst (v := 3) dX12_isFormItem_4 (by decide) ?_
  refine bw_iload_n (i := 1) dX12_isFormItem_5 rfl rfl ?_
  refine bw_imul dX12_isFormItem_6 ?_
  obtain ⟨hi1, h⟩ := h
  refine bw_iaload rfl hi1 dX12_isFormItem_7 ?_
  refine bw_iconst (v := 1) dX12_isFormItem_8 (by decide) ?_
  refine bw_icmp_eq (tgt := 24) dX12_isFormItem_9 (by decide) (fun c => ?_) (fun c => ?_)
  · replace h := h.1 (c)
    refine bw_iconst (v := 1) dX12_isFormItem_24 (by decide) ?_
    refine bw_goto (tgt := 29) dX12_isFormItem_25 (by decide) ?_
    exact bw_ireturn dX12_isFormItem_29 rfl (bw_nb true) ⟨true, rfl, h⟩
  · replace h := h.2 (c)
    refine bw_aload_n (i := 0) dX12_isFormItem_12 rfl rfl ?_
    refine bw_getr (r := 69) fg_BentWordsModel_65 rfl rfl dX12_isFormItem_13 ?_
    refine bw_iconst (v := 3) dX12_isFormItem_16 (by decide) ?_
    refine bw_iload_n (i := 1) dX12_isFormItem_17 rfl rfl ?_
    refine bw_imul dX12_isFormItem_18 ?_
    obtain ⟨hi2, h⟩ := h
    refine bw_iaload rfl hi2 dX12_isFormItem_19 ?_
    refine bw_iconst (v := 2) dX12_isFormItem_20 (by decide) ?_
    refine bw_icmp_ne (tgt := 28) dX12_isFormItem_21 (by decide) (fun c => ?_) (fun c => ?_)
    · replace h := h.1 (c)
      refine bw_iconst (v := 0) dX12_isFormItem_28 (by decide) ?_
      exact bw_ireturn dX12_isFormItem_29 rfl (bw_nb false) ⟨false, rfl, h⟩
    · replace h := h.2 (c)
      refine bw_iconst (v := 1) dX12_isFormItem_24 (by decide) ?_
      refine bw_goto (tgt := 29) dX12_isFormItem_25 (by decide) ?_
      exact bw_ireturn dX12_isFormItem_29 rfl (bw_nb true) ⟨true, rfl, h⟩
theorem fs_X12_isFormItem {E : bw_E} {d : Nat} {w : bw_W} {Q : Bool → bw_W → Prop} {a0 : Int32}  (hc0 : (vp_in (3 * a0) 96)) (hc1 : (¬ ((gw_i w 69 ((3 * a0).toNatClampNeg)) = 1)) → (vp_in (3 * a0) 96)) (h : Q (decide (((gw_i w 69 ((3 * a0).toNatClampNeg)) = 1) ∨ ((gw_i w 69 ((3 * a0).toNatClampNeg)) = 2))) w) : bw_rb E (d + 0) mX12_isFormItem [.ref 50, .int a0] w Q := by
  refine wfX12_isFormItem  ?_
  refine ⟨hc0 , ?_⟩
  refine ⟨fun c0 => ?_, fun c0 => ?_⟩
  · (try simp only [c0, if_true, if_false, ite_true, ite_false, decide_true, decide_false, true_and, and_true, false_and, and_false, not_true_eq_false, not_false_eq_true, true_or, or_true, false_or, or_false, or_self, and_self, Classical.not_not] at h) <;> exact h
  · refine ⟨hc1 c0, ?_⟩
    refine ⟨fun c1 => ?_, fun c1 => ?_⟩
    · (try simp only [c0, c1, if_true, if_false, ite_true, ite_false, decide_true, decide_false, true_and, and_true, false_and, and_false, not_true_eq_false, not_false_eq_true, true_or, or_true, false_or, or_false, or_self, and_self, Classical.not_not] at h) <;> exact h
    · (try simp only [c0, c1, if_true, if_false, ite_true, ite_false, decide_true, decide_false, true_and, and_true, false_and, and_false, not_true_eq_false, not_false_eq_true, true_or, or_true, false_or, or_false, or_self, and_self, Classical.not_not] at h) <;> exact h
theorem wfX12_putAside_2 {E : bw_E} {d : Nat} {w : bw_W} {Q : bw_W → Prop} {l1 : Int32}  (h : ((55 ≤ l1 → Q w) ∧ (¬ (55 ≤ l1) → (vp_in l1 236) ∧
(vp_in l1 55) ∧
bw_G E (d + 0) mX12_putAside 2 [some (.ref 50), some (.int (l1 + 1))] [] (sw_l w 73 (l1.toNatClampNeg) (gw_l w 63 (l1.toNatClampNeg))) (bw_qv Q)))) : bw_G E (d + 0) mX12_putAside 2 [some (.ref 50), some (.int l1)] [] w (bw_qv Q) := by
  refine bw_iload_n (i := 1) dX12_putAside_2 rfl rfl ?_
  refine bw_bipush (v := 55) dX12_putAside_3 (by decide) ?_
  refine bw_icmp_ge (tgt := 26) dX12_putAside_5 (by decide) (fun c => ?_) (fun c => ?_)
  · replace h := h.1 (c)
    exact bw_return dX12_putAside_26 rfl ⟨rfl, h⟩
  · replace h := h.2 (c)
    refine bw_aload_n (i := 0) dX12_putAside_8 rfl rfl ?_
    refine bw_getr (r := 73) fg_BentWordsModel_77 rfl rfl dX12_putAside_9 ?_
    refine bw_iload_n (i := 1) dX12_putAside_12 rfl rfl ?_
    refine bw_aload_n (i := 0) dX12_putAside_13 rfl rfl ?_
    refine bw_getr (r := 63) fg_BentWordsModel_47 rfl rfl dX12_putAside_14 ?_
    refine bw_iload_n (i := 1) dX12_putAside_17 rfl rfl ?_
    obtain ⟨hi1, h⟩ := h
    refine bw_laload rfl hi1 dX12_putAside_18 ?_
    obtain ⟨hi2, h⟩ := h
    refine bw_lastore rfl hi2 dX12_putAside_19 ?_
    refine bw_iinc (i := 1) (x := l1) (v := (l1 + 1)) (L' := [some (.ref 50), some (.int (l1 + 1))]) dX12_putAside_20 rfl rfl (Nat.le_of_ble_eq_true rfl) rfl ?_
    refine bw_goto (tgt := 2) dX12_putAside_23 (by decide) ?_
    exact h
theorem wfX12_putAside {E : bw_E} {d : Nat} {w : bw_W} {Q : bw_W → Prop}   (h : bw_G E (d + 0) mX12_putAside 2 [some (.ref 50), some (.int 0)] [] w (bw_qv Q)) : bw_rv E (d + 0) mX12_putAside [.ref 50] w Q := by
  refine bw_enter rfl (Nat.le_of_ble_eq_true rfl) ?_
  refine bw_iconst (v := 0) dX12_putAside_0 (by decide) ?_
  refine bw_istore_n (i := 1) (L' := [some (.ref 50), some (.int 0)]) dX12_putAside_1 rfl (Nat.le_of_ble_eq_true rfl) rfl ?_
  exact h
theorem wfX12_bringBack_2 {E : bw_E} {d : Nat} {w : bw_W} {Q : bw_W → Prop} {l1 : Int32}  (h : ((55 ≤ l1 → Q w) ∧ (¬ (55 ≤ l1) → (vp_in l1 55) ∧
(vp_in l1 236) ∧
bw_G E (d + 0) mX12_bringBack 2 [some (.ref 50), some (.int (l1 + 1))] [] (sw_l w 63 (l1.toNatClampNeg) (gw_l w 73 (l1.toNatClampNeg))) (bw_qv Q)))) : bw_G E (d + 0) mX12_bringBack 2 [some (.ref 50), some (.int l1)] [] w (bw_qv Q) := by
  refine bw_iload_n (i := 1) dX12_bringBack_2 rfl rfl ?_
  refine bw_bipush (v := 55) dX12_bringBack_3 (by decide) ?_
  refine bw_icmp_ge (tgt := 26) dX12_bringBack_5 (by decide) (fun c => ?_) (fun c => ?_)
  · replace h := h.1 (c)
    exact bw_return dX12_bringBack_26 rfl ⟨rfl, h⟩
  · replace h := h.2 (c)
    refine bw_aload_n (i := 0) dX12_bringBack_8 rfl rfl ?_
    refine bw_getr (r := 63) fg_BentWordsModel_47 rfl rfl dX12_bringBack_9 ?_
    refine bw_iload_n (i := 1) dX12_bringBack_12 rfl rfl ?_
    refine bw_aload_n (i := 0) dX12_bringBack_13 rfl rfl ?_
    refine bw_getr (r := 73) fg_BentWordsModel_77 rfl rfl dX12_bringBack_14 ?_
    refine bw_iload_n (i := 1) dX12_bringBack_17 rfl rfl ?_
    obtain ⟨hi1, h⟩ := h
    refine bw_laload rfl hi1 dX12_bringBack_18 ?_
    obtain ⟨hi2, h⟩ := h
    refine bw_lastore rfl hi2 dX12_bringBack_19 ?_
    refine bw_iinc (i := 1) (x := l1) (v := (l1 + 1)) (L' := [some (.ref 50), some (.int (l1 + 1))]) dX12_bringBack_20 rfl rfl (Nat.le_of_ble_eq_true rfl) rfl ?_
    refine bw_goto (tgt := 2) dX12_bringBack_23 (by decide) ?_
    exact h
theorem wfX12_bringBack {E : bw_E} {d : Nat} {w : bw_W} {Q : bw_W → Prop}   (h : bw_G E (d + 0) mX12_bringBack 2 [some (.ref 50), some (.int 0)] [] w (bw_qv Q)) : bw_rv E (d + 0) mX12_bringBack [.ref 50] w Q := by
  refine bw_enter rfl (Nat.le_of_ble_eq_true rfl) ?_
  refine bw_iconst (v := 0) dX12_bringBack_0 (by decide) ?_
  refine bw_istore_n (i := 1) (L' := [some (.ref 50), some (.int 0)]) dX12_bringBack_1 rfl (Nat.le_of_ble_eq_true rfl) rfl ?_
  exact h
theorem wfX12_isTape_19 {E : bw_E} {d : Nat} {w : bw_W} {Q : Bool → bw_W → Prop} {l1 : Int32} {l2 : Int32}  (h : (((gw_i w 50 2) ≤ l2 → (∃ b : Bool, l1 = bw_b b ∧ Q b w)) ∧ (¬ ((gw_i w 50 2) ≤ l2) → ((l1 = 0 → (∃ b : Bool, l1 = bw_b b ∧ Q b w)) ∧ (¬ (l1 = 0) → (vp_in l2 200) ∧
(vp_in l2 480) ∧
((¬ (gw_i w 71 (l2.toNatClampNeg)) = (gw_i w 51 (l2.toNatClampNeg)) → bw_G E (d + 0) mX12_isTape 19 [some (.ref 50), some (.int 0), some (.int (l2 + 1))] [] w (bw_qb Q)) ∧ ((gw_i w 71 (l2.toNatClampNeg)) = (gw_i w 51 (l2.toNatClampNeg)) → bw_G E (d + 0) mX12_isTape 19 [some (.ref 50), some (.int 1), some (.int (l2 + 1))] [] w (bw_qb Q)))))))) : bw_G E (d + 0) mX12_isTape 19 [some (.ref 50), some (.int l1), some (.int l2)] [] w (bw_qb Q) := by
  refine bw_iload_n (i := 2) dX12_isTape_19 rfl rfl ?_
  refine bw_aload_n (i := 0) dX12_isTape_20 rfl rfl ?_
  refine bw_geti fg_BentWordsModel_97 rfl dX12_isTape_21 ?_
  refine bw_icmp_ge (tgt := 58) dX12_isTape_24 (by decide) (fun c => ?_) (fun c => ?_)
  · replace h := h.1 (c)
    refine bw_iload_n (i := 1) dX12_isTape_58 rfl rfl ?_
    obtain ⟨b, hb, h⟩ := h
    rw [hb]
    exact bw_ireturn dX12_isTape_59 rfl (bw_nb b) ⟨b, rfl, h⟩
  · replace h := h.2 (c)
    refine bw_iload_n (i := 1) dX12_isTape_27 rfl rfl ?_
    refine bw_if_eq (tgt := 58) dX12_isTape_28 (by decide) (fun c => ?_) (fun c => ?_)
    · replace h := h.1 (c)
      refine bw_iload_n (i := 1) dX12_isTape_58 rfl rfl ?_
      obtain ⟨b, hb, h⟩ := h
      rw [hb]
      exact bw_ireturn dX12_isTape_59 rfl (bw_nb b) ⟨b, rfl, h⟩
    · replace h := h.2 (c)
      refine bw_aload_n (i := 0) dX12_isTape_31 rfl rfl ?_
      refine bw_getr (r := 71) fg_BentWordsModel_71 rfl rfl dX12_isTape_32 ?_
      refine bw_iload_n (i := 2) dX12_isTape_35 rfl rfl ?_
      obtain ⟨hi1, h⟩ := h
      refine bw_iaload rfl hi1 dX12_isTape_36 ?_
      refine bw_aload_n (i := 0) dX12_isTape_37 rfl rfl ?_
      refine bw_getr (r := 51) fg_BentWordsModel_9 rfl rfl dX12_isTape_38 ?_
      refine bw_iload_n (i := 2) dX12_isTape_41 rfl rfl ?_
      obtain ⟨hi2, h⟩ := h
      refine bw_iaload rfl hi2 dX12_isTape_42 ?_
      refine bw_icmp_ne (tgt := 50) dX12_isTape_43 (by decide) (fun c => ?_) (fun c => ?_)
      · replace h := h.1 (c)
        refine bw_iconst (v := 0) dX12_isTape_50 (by decide) ?_
        refine bw_istore_n (i := 1) (L' := [some (.ref 50), some (.int 0), some (.int l2)]) dX12_isTape_51 rfl (Nat.le_of_ble_eq_true rfl) rfl ?_
        refine bw_iinc (i := 2) (x := l2) (v := (l2 + 1)) (L' := [some (.ref 50), some (.int 0), some (.int (l2 + 1))]) dX12_isTape_52 rfl rfl (Nat.le_of_ble_eq_true rfl) rfl ?_
        refine bw_goto (tgt := 19) dX12_isTape_55 (by decide) ?_
        exact h
      · replace h := h.2 (c)
        refine bw_iconst (v := 1) dX12_isTape_46 (by decide) ?_
        refine bw_goto (tgt := 51) dX12_isTape_47 (by decide) ?_
        refine bw_istore_n (i := 1) (L' := [some (.ref 50), some (.int 1), some (.int l2)]) dX12_isTape_51 rfl (Nat.le_of_ble_eq_true rfl) rfl ?_
        refine bw_iinc (i := 2) (x := l2) (v := (l2 + 1)) (L' := [some (.ref 50), some (.int 1), some (.int (l2 + 1))]) dX12_isTape_52 rfl rfl (Nat.le_of_ble_eq_true rfl) rfl ?_
        refine bw_goto (tgt := 19) dX12_isTape_55 (by decide) ?_
        exact h
theorem wfX12_isTape {E : bw_E} {d : Nat} {w : bw_W} {Q : Bool → bw_W → Prop}   (h : ((¬ (gw_i w 50 37) = (gw_i w 50 2) → bw_G E (d + 0) mX12_isTape 19 [some (.ref 50), some (.int 0), some (.int 0)] [] w (bw_qb Q)) ∧ ((gw_i w 50 37) = (gw_i w 50 2) → bw_G E (d + 0) mX12_isTape 19 [some (.ref 50), some (.int 1), some (.int 0)] [] w (bw_qb Q)))) : bw_rb E (d + 0) mX12_isTape [.ref 50] w Q := by
  refine bw_enter rfl (Nat.le_of_ble_eq_true rfl) ?_
  refine bw_aload_n (i := 0) dX12_isTape_0 rfl rfl ?_
  refine bw_geti fg_BentWordsModel_308 rfl dX12_isTape_1 ?_
  refine bw_aload_n (i := 0) dX12_isTape_4 rfl rfl ?_
  refine bw_geti fg_BentWordsModel_97 rfl dX12_isTape_5 ?_
  refine bw_icmp_ne (tgt := 15) dX12_isTape_8 (by decide) (fun c => ?_) (fun c => ?_)
  · replace h := h.1 (c)
    refine bw_iconst (v := 0) dX12_isTape_15 (by decide) ?_
    refine bw_istore_n (i := 1) (L' := [some (.ref 50), some (.int 0), none]) dX12_isTape_16 rfl (Nat.le_of_ble_eq_true rfl) rfl ?_
    refine bw_iconst (v := 0) dX12_isTape_17 (by decide) ?_
    refine bw_istore_n (i := 2) (L' := [some (.ref 50), some (.int 0), some (.int 0)]) dX12_isTape_18 rfl (Nat.le_of_ble_eq_true rfl) rfl ?_
    exact h
  · replace h := h.2 (c)
    refine bw_iconst (v := 1) dX12_isTape_11 (by decide) ?_
    refine bw_goto (tgt := 16) dX12_isTape_12 (by decide) ?_
    refine bw_istore_n (i := 1) (L' := [some (.ref 50), some (.int 1), none]) dX12_isTape_16 rfl (Nat.le_of_ble_eq_true rfl) rfl ?_
    refine bw_iconst (v := 0) dX12_isTape_17 (by decide) ?_
    refine bw_istore_n (i := 2) (L' := [some (.ref 50), some (.int 1), some (.int 0)]) dX12_isTape_18 rfl (Nat.le_of_ble_eq_true rfl) rfl ?_
    exact h
theorem wfX12_isTwice_2 {E : bw_E} {d : Nat} {w : bw_W} {Q : Bool → bw_W → Prop} {l1 : Int32} {l2 : Int32} {l3 : Int32}  (h : ((8 ≤ l3 → Q false w) ∧ (¬ (8 ≤ l3) → ((l3 = l2 → bw_G E (d + 0) mX12_isTwice 2 [some (.ref 50), some (.int l1), some (.int l2), some (.int (l3 + 1))] [] w (bw_qb Q)) ∧ (¬ (l3 = l2) → (vp_in ((7 + (8 * l1)) + l3) 236) ∧
(vp_in ((7 + (8 * l1)) + l2) 236) ∧
((¬ (gw_l w 63 (((7 + (8 * l1)) + l3).toNatClampNeg)) = (gw_l w 63 (((7 + (8 * l1)) + l2).toNatClampNeg)) → bw_G E (d + 0) mX12_isTwice 2 [some (.ref 50), some (.int l1), some (.int l2), some (.int (l3 + 1))] [] w (bw_qb Q)) ∧ ((gw_l w 63 (((7 + (8 * l1)) + l3).toNatClampNeg)) = (gw_l w 63 (((7 + (8 * l1)) + l2).toNatClampNeg)) → (vp_in ((7 + (8 * l1)) + l2) 236) ∧
(((gw_l w 63 (((7 + (8 * l1)) + l2).toNatClampNeg)) = 0 → Q false w) ∧ (¬ (gw_l w 63 (((7 + (8 * l1)) + l2).toNatClampNeg)) = 0 → Q true w))))))))) : bw_G E (d + 0) mX12_isTwice 2 [some (.ref 50), some (.int l1), some (.int l2), some (.int l3)] [] w (bw_qb Q) := by
  refine bw_iload_n (i := 3) dX12_isTwice_2 rfl rfl ?_
  refine bw_bipush (v := 8) dX12_isTwice_3 (by decide) ?_
  refine bw_icmp_ge (tgt := 76) dX12_isTwice_5 (by decide) (fun c => ?_) (fun c => ?_)
  · replace h := h.1 (c)
    refine bw_iconst (v := 0) dX12_isTwice_76 (by decide) ?_
    exact bw_ireturn dX12_isTwice_77 rfl (bw_nb false) ⟨false, rfl, h⟩
  · replace h := h.2 (c)
    refine bw_iload_n (i := 3) dX12_isTwice_8 rfl rfl ?_
    refine bw_iload_n (i := 2) dX12_isTwice_9 rfl rfl ?_
    refine bw_icmp_eq (tgt := 70) dX12_isTwice_10 (by decide) (fun c => ?_) (fun c => ?_)
    · replace h := h.1 (c)
      refine bw_iinc (i := 3) (x := l3) (v := (l3 + 1)) (L' := [some (.ref 50), some (.int l1), some (.int l2), some (.int (l3 + 1))]) dX12_isTwice_70 rfl rfl (Nat.le_of_ble_eq_true rfl) rfl ?_
      refine bw_goto (tgt := 2) dX12_isTwice_73 (by decide) ?_
      exact h
    · replace h := h.2 (c)
      refine bw_aload_n (i := 0) dX12_isTwice_13 rfl rfl ?_
      refine bw_getr (r := 63) fg_BentWordsModel_47 rfl rfl dX12_isTwice_14 ?_
      refine bw_bipush (v := 7) dX12_isTwice_17 (by decide) ?_
      refine bw_bipush (v := 8) dX12_isTwice_19 (by decide) ?_
      refine bw_iload_n (i := 1) dX12_isTwice_21 rfl rfl ?_
      refine bw_imul dX12_isTwice_22 ?_
      refine bw_iadd dX12_isTwice_23 ?_
      refine bw_iload_n (i := 3) dX12_isTwice_24 rfl rfl ?_
      refine bw_iadd dX12_isTwice_25 ?_
      obtain ⟨hi1, h⟩ := h
      refine bw_laload rfl hi1 dX12_isTwice_26 ?_
      refine bw_aload_n (i := 0) dX12_isTwice_27 rfl rfl ?_
      refine bw_getr (r := 63) fg_BentWordsModel_47 rfl rfl dX12_isTwice_28 ?_
      refine bw_bipush (v := 7) dX12_isTwice_31 (by decide) ?_
      refine bw_bipush (v := 8) dX12_isTwice_33 (by decide) ?_
      refine bw_iload_n (i := 1) dX12_isTwice_35 rfl rfl ?_
      refine bw_imul dX12_isTwice_36 ?_
      refine bw_iadd dX12_isTwice_37 ?_
      refine bw_iload_n (i := 2) dX12_isTwice_38 rfl rfl ?_
      refine bw_iadd dX12_isTwice_39 ?_
      obtain ⟨hi2, h⟩ := h
      refine bw_laload rfl hi2 dX12_isTwice_40 ?_
      refine bw_lcmp_ne (tgt := 70) dX12_isTwice_41 dX12_isTwice_42 (by decide) (fun c => ?_) (fun c => ?_)
      · replace h := h.1 (c)
        refine bw_iinc (i := 3) (x := l3) (v := (l3 + 1)) (L' := [some (.ref 50), some (.int l1), some (.int l2), some (.int (l3 + 1))]) dX12_isTwice_70 rfl rfl (Nat.le_of_ble_eq_true rfl) rfl ?_
        refine bw_goto (tgt := 2) dX12_isTwice_73 (by decide) ?_
        exact h
      · replace h := h.2 (c)
        refine bw_aload_n (i := 0) dX12_isTwice_45 rfl rfl ?_
        refine bw_getr (r := 63) fg_BentWordsModel_47 rfl rfl dX12_isTwice_46 ?_
        refine bw_bipush (v := 7) dX12_isTwice_49 (by decide) ?_
        refine bw_bipush (v := 8) dX12_isTwice_51 (by decide) ?_
        refine bw_iload_n (i := 1) dX12_isTwice_53 rfl rfl ?_
        refine bw_imul dX12_isTwice_54 ?_
        refine bw_iadd dX12_isTwice_55 ?_
        refine bw_iload_n (i := 2) dX12_isTwice_56 rfl rfl ?_
        refine bw_iadd dX12_isTwice_57 ?_
        obtain ⟨hi3, h⟩ := h
        refine bw_laload rfl hi3 dX12_isTwice_58 ?_
        refine bw_lconst (v := 0) dX12_isTwice_59 rfl ?_
        refine bw_lcmp_eq (tgt := 68) dX12_isTwice_60 dX12_isTwice_61 (by decide) (fun c => ?_) (fun c => ?_)
        · replace h := h.1 (c)
          refine bw_iconst (v := 0) dX12_isTwice_68 (by decide) ?_
          exact bw_ireturn dX12_isTwice_69 rfl (bw_nb false) ⟨false, rfl, h⟩
        · replace h := h.2 (c)
          refine bw_iconst (v := 1) dX12_isTwice_64 (by decide) ?_
          refine bw_goto (tgt := 69) dX12_isTwice_65 (by decide) ?_
          exact bw_ireturn dX12_isTwice_69 rfl (bw_nb true) ⟨true, rfl, h⟩
theorem wfX12_isTwice {E : bw_E} {d : Nat} {w : bw_W} {Q : Bool → bw_W → Prop} {a0 : Int32} {a1 : Int32}  (h : bw_G E (d + 0) mX12_isTwice 2 [some (.ref 50), some (.int a0), some (.int a1), some (.int 0)] [] w (bw_qb Q)) : bw_rb E (d + 0) mX12_isTwice [.ref 50, .int a0, .int a1] w Q := by
  refine bw_enter rfl (Nat.le_of_ble_eq_true rfl) ?_
  refine bw_iconst (v := 0) dX12_isTwice_0 (by decide) ?_
  refine bw_istore_n (i := 3) (L' := [some (.ref 50), some (.int a0), some (.int a1), some (.int 0)]) dX12_isTwice_1 rfl (Nat.le_of_ble_eq_true rfl) rfl ?_
  exact h
theorem wfX12_count {E : bw_E} {d : Nat} {w : bw_W} {Q : Int32 → bw_W → Prop} {a0 : Int32}  (h : ((a0 = 0 → Q (gw_i w 50 34) w) ∧ (a0 = 1 → Q (gw_i w 50 25) w) ∧ (a0 = 2 → Q (gw_i w 50 2) w) ∧ (a0 = 3 → Q ((gw_l w 63 55).toInt32) w) ∧ (a0 = 4 → Q (gw_i w 50 42) w) ∧ (a0.toInt < 0 ∨ 4 < a0.toInt → Q (-1000000) w))) : bw_ri E (d + 0) mX12_count [.ref 50, .int a0] w Q := by
  refine bw_enter rfl (Nat.le_of_ble_eq_true rfl) ?_
  refine bw_iload_n (i := 1) dX12_count_0 rfl rfl ?_
  refine bw_tabsw dX12_count_1 [36, 41, 46, 51, 60] 65 (by decide) rfl rfl (fun j hj hx => ?_) (fun hx => ?_)
  · match j, hj, hx with
    | 0, _, hx =>
      replace h := h.1 (bw_ti hx (by decide))
      refine bw_aload_n (i := 0) dX12_count_36 rfl rfl ?_
      refine bw_geti fg_BentWordsModel_269 rfl dX12_count_37 ?_
      exact bw_ireturn dX12_count_40 rfl rfl ⟨_, rfl, h⟩
    | 1, _, hx =>
      replace h := h.2.1 (bw_ti hx (by decide))
      refine bw_aload_n (i := 0) dX12_count_41 rfl rfl ?_
      refine bw_geti fg_BentWordsModel_293 rfl dX12_count_42 ?_
      exact bw_ireturn dX12_count_45 rfl rfl ⟨_, rfl, h⟩
    | 2, _, hx =>
      replace h := h.2.2.1 (bw_ti hx (by decide))
      refine bw_aload_n (i := 0) dX12_count_46 rfl rfl ?_
      refine bw_geti fg_BentWordsModel_97 rfl dX12_count_47 ?_
      exact bw_ireturn dX12_count_50 rfl rfl ⟨_, rfl, h⟩
    | 3, _, hx =>
      replace h := h.2.2.2.1 (bw_ti hx (by decide))
      refine bw_aload_n (i := 0) dX12_count_51 rfl rfl ?_
      refine bw_getr (r := 63) fg_BentWordsModel_47 rfl rfl dX12_count_52 ?_
      refine bw_bipush (v := 55) dX12_count_55 (by decide) ?_
      refine bw_laload rfl (by unfold vp_in; decide) dX12_count_57 ?_
      rw [show gw_l w 63 (Int32.toNatClampNeg 55) = (gw_l w 63 55) from rfl]
      refine bw_l2i dX12_count_58 ?_
      exact bw_ireturn dX12_count_59 rfl rfl ⟨_, rfl, h⟩
    | 4, _, hx =>
      replace h := h.2.2.2.2.1 (bw_ti hx (by decide))
      refine bw_aload_n (i := 0) dX12_count_60 rfl rfl ?_
      refine bw_geti fg_BentWordsModel_283 rfl dX12_count_61 ?_
      exact bw_ireturn dX12_count_64 rfl rfl ⟨_, rfl, h⟩
    | j + 5, hj, _ => exact absurd hj (by simp)
  · replace h := h.2.2.2.2.2 hx
    refine bw_ldcw ki_BentWordsModel_259 dX12_count_65 ?_
    exact bw_ireturn dX12_count_68 rfl rfl ⟨_, rfl, h⟩
theorem wfJ6_bitCount_0f7a4 {E : bw_E} {d : Nat} {w : bw_W} {Q : Int32 → bw_W → Prop} {a0 : Int32}  (h : Q ((((((((a0 - (((a0.toUInt32 >>> ((1 : Int32).toUInt32 &&& Int32.toUInt32 31)).toInt32) &&& 1431655765)) &&& 858993459) + ((((a0 - (((a0.toUInt32 >>> ((1 : Int32).toUInt32 &&& Int32.toUInt32 31)).toInt32) &&& 1431655765)).toUInt32 >>> ((2 : Int32).toUInt32 &&& Int32.toUInt32 31)).toInt32) &&& 858993459)) + (((((a0 - (((a0.toUInt32 >>> ((1 : Int32).toUInt32 &&& Int32.toUInt32 31)).toInt32) &&& 1431655765)) &&& 858993459) + ((((a0 - (((a0.toUInt32 >>> ((1 : Int32).toUInt32 &&& Int32.toUInt32 31)).toInt32) &&& 1431655765)).toUInt32 >>> ((2 : Int32).toUInt32 &&& Int32.toUInt32 31)).toInt32) &&& 858993459)).toUInt32 >>> ((4 : Int32).toUInt32 &&& Int32.toUInt32 31)).toInt32)) &&& 252645135) + (((((((a0 - (((a0.toUInt32 >>> ((1 : Int32).toUInt32 &&& Int32.toUInt32 31)).toInt32) &&& 1431655765)) &&& 858993459) + ((((a0 - (((a0.toUInt32 >>> ((1 : Int32).toUInt32 &&& Int32.toUInt32 31)).toInt32) &&& 1431655765)).toUInt32 >>> ((2 : Int32).toUInt32 &&& Int32.toUInt32 31)).toInt32) &&& 858993459)) + (((((a0 - (((a0.toUInt32 >>> ((1 : Int32).toUInt32 &&& Int32.toUInt32 31)).toInt32) &&& 1431655765)) &&& 858993459) + ((((a0 - (((a0.toUInt32 >>> ((1 : Int32).toUInt32 &&& Int32.toUInt32 31)).toInt32) &&& 1431655765)).toUInt32 >>> ((2 : Int32).toUInt32 &&& Int32.toUInt32 31)).toInt32) &&& 858993459)).toUInt32 >>> ((4 : Int32).toUInt32 &&& Int32.toUInt32 31)).toInt32)) &&& 252645135).toUInt32 >>> ((8 : Int32).toUInt32 &&& Int32.toUInt32 31)).toInt32)) + ((((((((a0 - (((a0.toUInt32 >>> ((1 : Int32).toUInt32 &&& Int32.toUInt32 31)).toInt32) &&& 1431655765)) &&& 858993459) + ((((a0 - (((a0.toUInt32 >>> ((1 : Int32).toUInt32 &&& Int32.toUInt32 31)).toInt32) &&& 1431655765)).toUInt32 >>> ((2 : Int32).toUInt32 &&& Int32.toUInt32 31)).toInt32) &&& 858993459)) + (((((a0 - (((a0.toUInt32 >>> ((1 : Int32).toUInt32 &&& Int32.toUInt32 31)).toInt32) &&& 1431655765)) &&& 858993459) + ((((a0 - (((a0.toUInt32 >>> ((1 : Int32).toUInt32 &&& Int32.toUInt32 31)).toInt32) &&& 1431655765)).toUInt32 >>> ((2 : Int32).toUInt32 &&& Int32.toUInt32 31)).toInt32) &&& 858993459)).toUInt32 >>> ((4 : Int32).toUInt32 &&& Int32.toUInt32 31)).toInt32)) &&& 252645135) + (((((((a0 - (((a0.toUInt32 >>> ((1 : Int32).toUInt32 &&& Int32.toUInt32 31)).toInt32) &&& 1431655765)) &&& 858993459) + ((((a0 - (((a0.toUInt32 >>> ((1 : Int32).toUInt32 &&& Int32.toUInt32 31)).toInt32) &&& 1431655765)).toUInt32 >>> ((2 : Int32).toUInt32 &&& Int32.toUInt32 31)).toInt32) &&& 858993459)) + (((((a0 - (((a0.toUInt32 >>> ((1 : Int32).toUInt32 &&& Int32.toUInt32 31)).toInt32) &&& 1431655765)) &&& 858993459) + ((((a0 - (((a0.toUInt32 >>> ((1 : Int32).toUInt32 &&& Int32.toUInt32 31)).toInt32) &&& 1431655765)).toUInt32 >>> ((2 : Int32).toUInt32 &&& Int32.toUInt32 31)).toInt32) &&& 858993459)).toUInt32 >>> ((4 : Int32).toUInt32 &&& Int32.toUInt32 31)).toInt32)) &&& 252645135).toUInt32 >>> ((8 : Int32).toUInt32 &&& Int32.toUInt32 31)).toInt32)).toUInt32 >>> ((16 : Int32).toUInt32 &&& Int32.toUInt32 31)).toInt32)) &&& 63) w) : bw_ri E (d + 0) mJ6_bitCount_0f7a4 [.int a0] w Q := by
  refine bw_enter rfl (Nat.le_of_ble_eq_true rfl) ?_
  refine bw_iload_n (i := 0) dJ6_bitCount_0f7a4_0 rfl rfl ?_
  refine bw_iload_n (i := 0) dJ6_bitCount_0f7a4_1 rfl rfl ?_
  refine bw_iconst (v := 1) dJ6_bitCount_0f7a4_2 (by decide) ?_
  refine bw_iushr dJ6_bitCount_0f7a4_3 ?_
  refine bw_ldcw ki_java_lang_Integer_265 dJ6_bitCount_0f7a4_4 ?_
  refine bw_iand dJ6_bitCount_0f7a4_7 ?_
  refine bw_isub dJ6_bitCount_0f7a4_8 ?_
  refine bw_istore_n (i := 0) (L' := [some (.int (a0 - (((a0.toUInt32 >>> ((1 : Int32).toUInt32 &&& Int32.toUInt32 31)).toInt32) &&& 1431655765)))]) dJ6_bitCount_0f7a4_9 rfl (Nat.le_of_ble_eq_true rfl) rfl ?_
  refine bw_iload_n (i := 0) dJ6_bitCount_0f7a4_10 rfl rfl ?_
  refine bw_ldcw ki_java_lang_Integer_266 dJ6_bitCount_0f7a4_11 ?_
  refine bw_iand dJ6_bitCount_0f7a4_14 ?_
  refine bw_iload_n (i := 0) dJ6_bitCount_0f7a4_15 rfl rfl ?_
  refine bw_iconst (v := 2) dJ6_bitCount_0f7a4_16 (by decide) ?_
  refine bw_iushr dJ6_bitCount_0f7a4_17 ?_
  refine bw_ldcw ki_java_lang_Integer_266 dJ6_bitCount_0f7a4_18 ?_
  refine bw_iand dJ6_bitCount_0f7a4_21 ?_
  refine bw_iadd dJ6_bitCount_0f7a4_22 ?_
  refine bw_istore_n (i := 0) (L' := [some (.int (((a0 - (((a0.toUInt32 >>> ((1 : Int32).toUInt32 &&& Int32.toUInt32 31)).toInt32) &&& 1431655765)) &&& 858993459) + ((((a0 - (((a0.toUInt32 >>> ((1 : Int32).toUInt32 &&& Int32.toUInt32 31)).toInt32) &&& 1431655765)).toUInt32 >>> ((2 : Int32).toUInt32 &&& Int32.toUInt32 31)).toInt32) &&& 858993459)))]) dJ6_bitCount_0f7a4_23 rfl (Nat.le_of_ble_eq_true rfl) rfl ?_
  refine bw_iload_n (i := 0) dJ6_bitCount_0f7a4_24 rfl rfl ?_
  refine bw_iload_n (i := 0) dJ6_bitCount_0f7a4_25 rfl rfl ?_
  refine bw_iconst (v := 4) dJ6_bitCount_0f7a4_26 (by decide) ?_
  refine bw_iushr dJ6_bitCount_0f7a4_27 ?_
  refine bw_iadd dJ6_bitCount_0f7a4_28 ?_
  refine bw_ldcw ki_java_lang_Integer_267 dJ6_bitCount_0f7a4_29 ?_
  refine bw_iand dJ6_bitCount_0f7a4_32 ?_
  refine bw_istore_n (i := 0) (L' := [some (.int (((((a0 - (((a0.toUInt32 >>> ((1 : Int32).toUInt32 &&& Int32.toUInt32 31)).toInt32) &&& 1431655765)) &&& 858993459) + ((((a0 - (((a0.toUInt32 >>> ((1 : Int32).toUInt32 &&& Int32.toUInt32 31)).toInt32) &&& 1431655765)).toUInt32 >>> ((2 : Int32).toUInt32 &&& Int32.toUInt32 31)).toInt32) &&& 858993459)) + (((((a0 - (((a0.toUInt32 >>> ((1 : Int32).toUInt32 &&& Int32.toUInt32 31)).toInt32) &&& 1431655765)) &&& 858993459) + ((((a0 - (((a0.toUInt32 >>> ((1 : Int32).toUInt32 &&& Int32.toUInt32 31)).toInt32) &&& 1431655765)).toUInt32 >>> ((2 : Int32).toUInt32 &&& Int32.toUInt32 31)).toInt32) &&& 858993459)).toUInt32 >>> ((4 : Int32).toUInt32 &&& Int32.toUInt32 31)).toInt32)) &&& 252645135))]) dJ6_bitCount_0f7a4_33 rfl (Nat.le_of_ble_eq_true rfl) rfl ?_
  refine bw_iload_n (i := 0) dJ6_bitCount_0f7a4_34 rfl rfl ?_
  refine bw_iload_n (i := 0) dJ6_bitCount_0f7a4_35 rfl rfl ?_
  refine bw_bipush (v := 8) dJ6_bitCount_0f7a4_36 (by decide) ?_
  refine bw_iushr dJ6_bitCount_0f7a4_38 ?_
  refine bw_iadd dJ6_bitCount_0f7a4_39 ?_
  refine bw_istore_n (i := 0) (L' := [some (.int ((((((a0 - (((a0.toUInt32 >>> ((1 : Int32).toUInt32 &&& Int32.toUInt32 31)).toInt32) &&& 1431655765)) &&& 858993459) + ((((a0 - (((a0.toUInt32 >>> ((1 : Int32).toUInt32 &&& Int32.toUInt32 31)).toInt32) &&& 1431655765)).toUInt32 >>> ((2 : Int32).toUInt32 &&& Int32.toUInt32 31)).toInt32) &&& 858993459)) + (((((a0 - (((a0.toUInt32 >>> ((1 : Int32).toUInt32 &&& Int32.toUInt32 31)).toInt32) &&& 1431655765)) &&& 858993459) + ((((a0 - (((a0.toUInt32 >>> ((1 : Int32).toUInt32 &&& Int32.toUInt32 31)).toInt32) &&& 1431655765)).toUInt32 >>> ((2 : Int32).toUInt32 &&& Int32.toUInt32 31)).toInt32) &&& 858993459)).toUInt32 >>> ((4 : Int32).toUInt32 &&& Int32.toUInt32 31)).toInt32)) &&& 252645135) + (((((((a0 - (((a0.toUInt32 >>> ((1 : Int32).toUInt32 &&& Int32.toUInt32 31)).toInt32) &&& 1431655765)) &&& 858993459) + ((((a0 - (((a0.toUInt32 >>> ((1 : Int32).toUInt32 &&& Int32.toUInt32 31)).toInt32) &&& 1431655765)).toUInt32 >>> ((2 : Int32).toUInt32 &&& Int32.toUInt32 31)).toInt32) &&& 858993459)) + (((((a0 - (((a0.toUInt32 >>> ((1 : Int32).toUInt32 &&& Int32.toUInt32 31)).toInt32) &&& 1431655765)) &&& 858993459) + ((((a0 - (((a0.toUInt32 >>> ((1 : Int32).toUInt32 &&& Int32.toUInt32 31)).toInt32) &&& 1431655765)).toUInt32 >>> ((2 : Int32).toUInt32 &&& Int32.toUInt32 31)).toInt32) &&& 858993459)).toUInt32 >>> ((4 : Int32).toUInt32 &&& Int32.toUInt32 31)).toInt32)) &&& 252645135).toUInt32 >>> ((8 : Int32).toUInt32 &&& Int32.toUInt32 31)).toInt32)))]) dJ6_bitCount_0f7a4_40 rfl (Nat.le_of_ble_eq_true rfl) rfl ?_
  refine bw_iload_n (i := 0) dJ6_bitCount_0f7a4_41 rfl rfl ?_
  refine bw_iload_n (i := 0) dJ6_bitCount_0f7a4_42 rfl rfl ?_
  refine bw_bipush (v := 16) dJ6_bitCount_0f7a4_43 (by decide) ?_
  refine bw_iushr dJ6_bitCount_0f7a4_45 ?_
  refine bw_iadd dJ6_bitCount_0f7a4_46 ?_
  refine bw_istore_n (i := 0) (L' := [some (.int (((((((a0 - (((a0.toUInt32 >>> ((1 : Int32).toUInt32 &&& Int32.toUInt32 31)).toInt32) &&& 1431655765)) &&& 858993459) + ((((a0 - (((a0.toUInt32 >>> ((1 : Int32).toUInt32 &&& Int32.toUInt32 31)).toInt32) &&& 1431655765)).toUInt32 >>> ((2 : Int32).toUInt32 &&& Int32.toUInt32 31)).toInt32) &&& 858993459)) + (((((a0 - (((a0.toUInt32 >>> ((1 : Int32).toUInt32 &&& Int32.toUInt32 31)).toInt32) &&& 1431655765)) &&& 858993459) + ((((a0 - (((a0.toUInt32 >>> ((1 : Int32).toUInt32 &&& Int32.toUInt32 31)).toInt32) &&& 1431655765)).toUInt32 >>> ((2 : Int32).toUInt32 &&& Int32.toUInt32 31)).toInt32) &&& 858993459)).toUInt32 >>> ((4 : Int32).toUInt32 &&& Int32.toUInt32 31)).toInt32)) &&& 252645135) + (((((((a0 - (((a0.toUInt32 >>> ((1 : Int32).toUInt32 &&& Int32.toUInt32 31)).toInt32) &&& 1431655765)) &&& 858993459) + ((((a0 - (((a0.toUInt32 >>> ((1 : Int32).toUInt32 &&& Int32.toUInt32 31)).toInt32) &&& 1431655765)).toUInt32 >>> ((2 : Int32).toUInt32 &&& Int32.toUInt32 31)).toInt32) &&& 858993459)) + (((((a0 - (((a0.toUInt32 >>> ((1 : Int32).toUInt32 &&& Int32.toUInt32 31)).toInt32) &&& 1431655765)) &&& 858993459) + ((((a0 - (((a0.toUInt32 >>> ((1 : Int32).toUInt32 &&& Int32.toUInt32 31)).toInt32) &&& 1431655765)).toUInt32 >>> ((2 : Int32).toUInt32 &&& Int32.toUInt32 31)).toInt32) &&& 858993459)).toUInt32 >>> ((4 : Int32).toUInt32 &&& Int32.toUInt32 31)).toInt32)) &&& 252645135).toUInt32 >>> ((8 : Int32).toUInt32 &&& Int32.toUInt32 31)).toInt32)) + ((((((((a0 - (((a0.toUInt32 >>> ((1 : Int32).toUInt32 &&& Int32.toUInt32 31)).toInt32) &&& 1431655765)) &&& 858993459) + ((((a0 - (((a0.toUInt32 >>> ((1 : Int32).toUInt32 &&& Int32.toUInt32 31)).toInt32) &&& 1431655765)).toUInt32 >>> ((2 : Int32).toUInt32 &&& Int32.toUInt32 31)).toInt32) &&& 858993459)) + (((((a0 - (((a0.toUInt32 >>> ((1 : Int32).toUInt32 &&& Int32.toUInt32 31)).toInt32) &&& 1431655765)) &&& 858993459) + ((((a0 - (((a0.toUInt32 >>> ((1 : Int32).toUInt32 &&& Int32.toUInt32 31)).toInt32) &&& 1431655765)).toUInt32 >>> ((2 : Int32).toUInt32 &&& Int32.toUInt32 31)).toInt32) &&& 858993459)).toUInt32 >>> ((4 : Int32).toUInt32 &&& Int32.toUInt32 31)).toInt32)) &&& 252645135) + (((((((a0 - (((a0.toUInt32 >>> ((1 : Int32).toUInt32 &&& Int32.toUInt32 31)).toInt32) &&& 1431655765)) &&& 858993459) + ((((a0 - (((a0.toUInt32 >>> ((1 : Int32).toUInt32 &&& Int32.toUInt32 31)).toInt32) &&& 1431655765)).toUInt32 >>> ((2 : Int32).toUInt32 &&& Int32.toUInt32 31)).toInt32) &&& 858993459)) + (((((a0 - (((a0.toUInt32 >>> ((1 : Int32).toUInt32 &&& Int32.toUInt32 31)).toInt32) &&& 1431655765)) &&& 858993459) + ((((a0 - (((a0.toUInt32 >>> ((1 : Int32).toUInt32 &&& Int32.toUInt32 31)).toInt32) &&& 1431655765)).toUInt32 >>> ((2 : Int32).toUInt32 &&& Int32.toUInt32 31)).toInt32) &&& 858993459)).toUInt32 >>> ((4 : Int32).toUInt32 &&& Int32.toUInt32 31)).toInt32)) &&& 252645135).toUInt32 >>> ((8 : Int32).toUInt32 &&& Int32.toUInt32 31)).toInt32)).toUInt32 >>> ((16 : Int32).toUInt32 &&& Int32.toUInt32 31)).toInt32)))]) dJ6_bitCount_0f7a4_47 rfl (Nat.le_of_ble_eq_true rfl) rfl ?_
  refine bw_iload_n (i := 0) dJ6_bitCount_0f7a4_48 rfl rfl ?_
  refine bw_bipush (v := 63) dJ6_bitCount_0f7a4_49 (by decide) ?_
  refine bw_iand dJ6_bitCount_0f7a4_51 ?_
  exact bw_ireturn dJ6_bitCount_0f7a4_52 rfl rfl ⟨_, rfl, h⟩
def vJ6_bitCount_0f7a4 (a0 : Int32) : Int32 := ((((((((a0 - (((a0.toUInt32 >>> ((1 : Int32).toUInt32 &&& Int32.toUInt32 31)).toInt32) &&& 1431655765)) &&& 858993459) + ((((a0 - (((a0.toUInt32 >>> ((1 : Int32).toUInt32 &&& Int32.toUInt32 31)).toInt32) &&& 1431655765)).toUInt32 >>> ((2 : Int32).toUInt32 &&& Int32.toUInt32 31)).toInt32) &&& 858993459)) + (((((a0 - (((a0.toUInt32 >>> ((1 : Int32).toUInt32 &&& Int32.toUInt32 31)).toInt32) &&& 1431655765)) &&& 858993459) + ((((a0 - (((a0.toUInt32 >>> ((1 : Int32).toUInt32 &&& Int32.toUInt32 31)).toInt32) &&& 1431655765)).toUInt32 >>> ((2 : Int32).toUInt32 &&& Int32.toUInt32 31)).toInt32) &&& 858993459)).toUInt32 >>> ((4 : Int32).toUInt32 &&& Int32.toUInt32 31)).toInt32)) &&& 252645135) + (((((((a0 - (((a0.toUInt32 >>> ((1 : Int32).toUInt32 &&& Int32.toUInt32 31)).toInt32) &&& 1431655765)) &&& 858993459) + ((((a0 - (((a0.toUInt32 >>> ((1 : Int32).toUInt32 &&& Int32.toUInt32 31)).toInt32) &&& 1431655765)).toUInt32 >>> ((2 : Int32).toUInt32 &&& Int32.toUInt32 31)).toInt32) &&& 858993459)) + (((((a0 - (((a0.toUInt32 >>> ((1 : Int32).toUInt32 &&& Int32.toUInt32 31)).toInt32) &&& 1431655765)) &&& 858993459) + ((((a0 - (((a0.toUInt32 >>> ((1 : Int32).toUInt32 &&& Int32.toUInt32 31)).toInt32) &&& 1431655765)).toUInt32 >>> ((2 : Int32).toUInt32 &&& Int32.toUInt32 31)).toInt32) &&& 858993459)).toUInt32 >>> ((4 : Int32).toUInt32 &&& Int32.toUInt32 31)).toInt32)) &&& 252645135).toUInt32 >>> ((8 : Int32).toUInt32 &&& Int32.toUInt32 31)).toInt32)) + ((((((((a0 - (((a0.toUInt32 >>> ((1 : Int32).toUInt32 &&& Int32.toUInt32 31)).toInt32) &&& 1431655765)) &&& 858993459) + ((((a0 - (((a0.toUInt32 >>> ((1 : Int32).toUInt32 &&& Int32.toUInt32 31)).toInt32) &&& 1431655765)).toUInt32 >>> ((2 : Int32).toUInt32 &&& Int32.toUInt32 31)).toInt32) &&& 858993459)) + (((((a0 - (((a0.toUInt32 >>> ((1 : Int32).toUInt32 &&& Int32.toUInt32 31)).toInt32) &&& 1431655765)) &&& 858993459) + ((((a0 - (((a0.toUInt32 >>> ((1 : Int32).toUInt32 &&& Int32.toUInt32 31)).toInt32) &&& 1431655765)).toUInt32 >>> ((2 : Int32).toUInt32 &&& Int32.toUInt32 31)).toInt32) &&& 858993459)).toUInt32 >>> ((4 : Int32).toUInt32 &&& Int32.toUInt32 31)).toInt32)) &&& 252645135) + (((((((a0 - (((a0.toUInt32 >>> ((1 : Int32).toUInt32 &&& Int32.toUInt32 31)).toInt32) &&& 1431655765)) &&& 858993459) + ((((a0 - (((a0.toUInt32 >>> ((1 : Int32).toUInt32 &&& Int32.toUInt32 31)).toInt32) &&& 1431655765)).toUInt32 >>> ((2 : Int32).toUInt32 &&& Int32.toUInt32 31)).toInt32) &&& 858993459)) + (((((a0 - (((a0.toUInt32 >>> ((1 : Int32).toUInt32 &&& Int32.toUInt32 31)).toInt32) &&& 1431655765)) &&& 858993459) + ((((a0 - (((a0.toUInt32 >>> ((1 : Int32).toUInt32 &&& Int32.toUInt32 31)).toInt32) &&& 1431655765)).toUInt32 >>> ((2 : Int32).toUInt32 &&& Int32.toUInt32 31)).toInt32) &&& 858993459)).toUInt32 >>> ((4 : Int32).toUInt32 &&& Int32.toUInt32 31)).toInt32)) &&& 252645135).toUInt32 >>> ((8 : Int32).toUInt32 &&& Int32.toUInt32 31)).toInt32)).toUInt32 >>> ((16 : Int32).toUInt32 &&& Int32.toUInt32 31)).toInt32)) &&& 63)
theorem fs_J6_bitCount_0f7a4 {E : bw_E} {d : Nat} {w : bw_W} {Q : Int32 → bw_W → Prop} {a0 : Int32}   (h : Q (vJ6_bitCount_0f7a4 a0) w) : bw_ri E (d + 0) mJ6_bitCount_0f7a4 [.int a0] w Q := by
  refine wfJ6_bitCount_0f7a4  ?_
  exact h
theorem wfX0_isAtEnd {E : bw_E} {d : Nat} {w : bw_W} {Q : Bool → bw_W → Prop}   (h : (∃ Q1 : bw_W → Prop, bw_rv E (d + 0) mX0_skipBlanks [.ref 3] w Q1 ∧ ∀ w3, Q1 w3 →
(((gw_i w3 3 1) < (gw_i w3 1 1) → Q false w3) ∧ (¬ ((gw_i w3 3 1) < (gw_i w3 1 1)) → Q true w3)))) : bw_rb E (d + 1) mX0_isAtEnd [.ref 3] w Q := by
  refine bw_enter rfl (Nat.le_of_ble_eq_true rfl) ?_
  refine bw_aload_n (i := 0) dX0_isAtEnd_0 rfl rfl ?_
  obtain ⟨Q1, hr, h⟩ := h
  refine bw_cVv (As := []) (st := []) cv_BentWords_Cursor_31 rfl rfl hr rfl rfl (Nat.le_of_ble_eq_true rfl) dX0_isAtEnd_1 (fun w3 hv => ?_)
  replace h := h w3 hv
  clear hr
  refine bw_aload_n (i := 0) dX0_isAtEnd_4 rfl rfl ?_
  refine bw_geti fg_BentWords_Cursor_15 rfl dX0_isAtEnd_5 ?_
  refine bw_aload_n (i := 0) dX0_isAtEnd_8 rfl rfl ?_
  refine bw_getr (r := 1) fg_BentWords_Cursor_9 rfl rfl dX0_isAtEnd_9 ?_
  refine bw_geti fg_BentWords_Cursor_22 rfl dX0_isAtEnd_12 ?_
  refine bw_icmp_lt (tgt := 22) dX0_isAtEnd_15 (by decide) (fun c => ?_) (fun c => ?_)
  · replace h := h.1 (c)
    refine bw_iconst (v := 0) dX0_isAtEnd_22 (by decide) ?_
    exact bw_ireturn dX0_isAtEnd_23 rfl (bw_nb false) ⟨false, rfl, h⟩
  · replace h := h.2 (c)
    refine bw_iconst (v := 1) dX0_isAtEnd_18 (by decide) ?_
    refine bw_goto (tgt := 23) dX0_isAtEnd_19 (by decide) ?_
    exact bw_ireturn dX0_isAtEnd_23 rfl (bw_nb true) ⟨true, rfl, h⟩
theorem wfX0_nextSign {E : bw_E} {d : Nat} {w : bw_W} {Q : Int32 → bw_W → Prop}   (h : (∃ Q1 : bw_W → Prop, bw_rv E (d + 0) mX0_skipBlanks [.ref 3] w Q1 ∧ ∀ w3, Q1 w3 →
(((gw_i w3 1 1) ≤ (gw_i w3 3 1) → Q 0 w3) ∧ (¬ ((gw_i w3 1 1) ≤ (gw_i w3 3 1)) → (vp_in (gw_i w3 3 1) 480) ∧
(narrow .char (.int (gw_i w3 2 ((gw_i w3 3 1).toNatClampNeg))) = .int (gw_i w3 2 ((gw_i w3 3 1).toNatClampNeg))) ∧
Q (gw_i w3 2 ((gw_i w3 3 1).toNatClampNeg)) w3)))) : bw_ri E (d + 1) mX0_nextSign [.ref 3] w Q := by
  refine bw_enter rfl (Nat.le_of_ble_eq_true rfl) ?_
  refine bw_aload_n (i := 0) dX0_nextSign_0 rfl rfl ?_
  obtain ⟨Q1, hr, h⟩ := h
  refine bw_cVv (As := []) (st := []) cv_BentWords_Cursor_31 rfl rfl hr rfl rfl (Nat.le_of_ble_eq_true rfl) dX0_nextSign_1 (fun w3 hv => ?_)
  replace h := h w3 hv
  clear hr
  refine bw_aload_n (i := 0) dX0_nextSign_4 rfl rfl ?_
  refine bw_geti fg_BentWords_Cursor_15 rfl dX0_nextSign_5 ?_
  refine bw_aload_n (i := 0) dX0_nextSign_8 rfl rfl ?_
  refine bw_getr (r := 1) fg_BentWords_Cursor_9 rfl rfl dX0_nextSign_9 ?_
  refine bw_geti fg_BentWords_Cursor_22 rfl dX0_nextSign_12 ?_
  refine bw_icmp_ge (tgt := 33) dX0_nextSign_15 (by decide) (fun c => ?_) (fun c => ?_)
  · replace h := h.1 (c)
    refine bw_iconst (v := 0) dX0_nextSign_33 (by decide) ?_
    exact bw_ireturn dX0_nextSign_34 rfl rfl ⟨_, rfl, h⟩
  · replace h := h.2 (c)
    refine bw_aload_n (i := 0) dX0_nextSign_18 rfl rfl ?_
    refine bw_getr (r := 1) fg_BentWords_Cursor_9 rfl rfl dX0_nextSign_19 ?_
    refine bw_getr (r := 2) fg_BentWords_Cursor_27 rfl rfl dX0_nextSign_22 ?_
    refine bw_aload_n (i := 0) dX0_nextSign_25 rfl rfl ?_
    refine bw_geti fg_BentWords_Cursor_15 rfl dX0_nextSign_26 ?_
    obtain ⟨hi4, h⟩ := h
    refine bw_caload rfl hi4 dX0_nextSign_29 ?_
    refine bw_goto (tgt := 34) dX0_nextSign_30 (by decide) ?_
    obtain ⟨hn5, h⟩ := h
    exact bw_ireturn dX0_nextSign_34 rfl hn5 ⟨_, rfl, h⟩
theorem wfX0_takeWord_17 {E : bw_E} {d : Nat} {w : bw_W} {Q : Bool → bw_W → Prop}   (h : (((gw_i w 1 1) ≤ (gw_i w 3 1) → (((gw_i w 3 1) ≤ (gw_i w 3 2) → ((¬ False → Q false (sw_i w 3 3 (gw_i w 3 2))) ∧ (False → Q true (sw_i w 3 3 (gw_i w 3 2))))) ∧ (¬ ((gw_i w 3 1) ≤ (gw_i w 3 2)) → ((((gw_i w 3 1) - (gw_i w 3 2)) ≤ 8 → Q true w) ∧ (¬ (((gw_i w 3 1) - (gw_i w 3 2)) ≤ 8) → ((¬ False → Q false (sw_i w 3 3 (gw_i w 3 2))) ∧ (False → Q true (sw_i w 3 3 (gw_i w 3 2))))))))) ∧ (¬ ((gw_i w 1 1) ≤ (gw_i w 3 1)) → (vp_in (gw_i w 3 1) 480) ∧
(((gw_i w 2 ((gw_i w 3 1).toNatClampNeg)) < 97 → (((gw_i w 3 1) ≤ (gw_i w 3 2) → ((¬ False → Q false (sw_i w 3 3 (gw_i w 3 2))) ∧ (False → Q true (sw_i w 3 3 (gw_i w 3 2))))) ∧ (¬ ((gw_i w 3 1) ≤ (gw_i w 3 2)) → ((((gw_i w 3 1) - (gw_i w 3 2)) ≤ 8 → Q true w) ∧ (¬ (((gw_i w 3 1) - (gw_i w 3 2)) ≤ 8) → ((¬ False → Q false (sw_i w 3 3 (gw_i w 3 2))) ∧ (False → Q true (sw_i w 3 3 (gw_i w 3 2))))))))) ∧ (¬ ((gw_i w 2 ((gw_i w 3 1).toNatClampNeg)) < 97) → (vp_in (gw_i w 3 1) 480) ∧
((122 < (gw_i w 2 ((gw_i w 3 1).toNatClampNeg)) → (((gw_i w 3 1) ≤ (gw_i w 3 2) → ((¬ False → Q false (sw_i w 3 3 (gw_i w 3 2))) ∧ (False → Q true (sw_i w 3 3 (gw_i w 3 2))))) ∧ (¬ ((gw_i w 3 1) ≤ (gw_i w 3 2)) → ((((gw_i w 3 1) - (gw_i w 3 2)) ≤ 8 → Q true w) ∧ (¬ (((gw_i w 3 1) - (gw_i w 3 2)) ≤ 8) → ((¬ False → Q false (sw_i w 3 3 (gw_i w 3 2))) ∧ (False → Q true (sw_i w 3 3 (gw_i w 3 2))))))))) ∧ (¬ (122 < (gw_i w 2 ((gw_i w 3 1).toNatClampNeg))) → ((8 ≤ ((gw_i w 3 1) - (gw_i w 3 2)) → bw_G E (d + 1) mX0_takeWord 17 [some (.ref 3), none] [] (sw_i w 3 1 ((gw_i w 3 1) + 1)) (bw_qb Q)) ∧ (¬ (8 ≤ ((gw_i w 3 1) - (gw_i w 3 2))) → (vp_in (gw_i w 3 1) 480) ∧
bw_G E (d + 1) mX0_takeWord 17 [some (.ref 3), none] [] (sw_i (sw_l w 3 5 ((gw_l w 3 5) ||| (((gw_i w 2 ((gw_i w 3 1).toNatClampNeg)).toInt64) <<< ((8 * ((gw_i w 3 1) - (gw_i w 3 2))).toInt64 &&& 63)))) 3 1 ((gw_i w 3 1) + 1)) (bw_qb Q)))))))))) : bw_G E (d + 1) mX0_takeWord 17 [some (.ref 3), none] [] w (bw_qb Q) := by
  refine bw_aload_n (i := 0) dX0_takeWord_17 rfl rfl ?_
  refine bw_geti fg_BentWords_Cursor_15 rfl dX0_takeWord_18 ?_
  refine bw_aload_n (i := 0) dX0_takeWord_21 rfl rfl ?_
  refine bw_getr (r := 1) fg_BentWords_Cursor_9 rfl rfl dX0_takeWord_22 ?_
  refine bw_geti fg_BentWords_Cursor_22 rfl dX0_takeWord_25 ?_
  refine bw_icmp_ge (tgt := 121) dX0_takeWord_28 (by decide) (fun c => ?_) (fun c => ?_)
  · replace h := h.1 (c)
    refine bw_aload_n (i := 0) dX0_takeWord_121 rfl rfl ?_
    refine bw_geti fg_BentWords_Cursor_15 rfl dX0_takeWord_122 ?_
    refine bw_aload_n (i := 0) dX0_takeWord_125 rfl rfl ?_
    refine bw_geti fg_BentWords_Cursor_34 rfl dX0_takeWord_126 ?_
    refine bw_icmp_le (tgt := 146) dX0_takeWord_129 (by decide) (fun c => ?_) (fun c => ?_)
    · replace h := h.1 (c)
      refine bw_aload_n (i := 0) dX0_takeWord_146 rfl rfl ?_
      refine bw_aload_n (i := 0) dX0_takeWord_147 rfl rfl ?_
      refine bw_geti fg_BentWords_Cursor_34 rfl dX0_takeWord_148 ?_
      refine bw_cVb (As := [.int (gw_i w 3 2)]) (st := []) (Q' := (fun v w1 => (decide False) = v ∧ (sw_i w 3 3 (gw_i w 3 2)) = w1)) cv_BentWords_Cursor_41 rfl rfl (fs_X0_fail (d := d + 0) (a0 := (gw_i w 3 2))  ⟨rfl, rfl⟩) rfl rfl (Nat.le_of_ble_eq_true rfl) dX0_takeWord_151 (fun v w1 hv => ?_)
      obtain ⟨rfl, rfl⟩ := hv
      refine bw_ifb_eq (tgt := 161) dX0_takeWord_154 (by decide) (fun c => ?_) (fun c => ?_)
      · replace h := h.1 (of_decide_eq_false c)
        refine bw_iconst (v := 0) dX0_takeWord_161 (by decide) ?_
        exact bw_ireturn dX0_takeWord_162 rfl (bw_nb false) ⟨false, rfl, h⟩
      · replace h := h.2 (of_decide_eq_true c)
        refine bw_iconst (v := 1) dX0_takeWord_157 (by decide) ?_
        refine bw_goto (tgt := 162) dX0_takeWord_158 (by decide) ?_
        exact bw_ireturn dX0_takeWord_162 rfl (bw_nb true) ⟨true, rfl, h⟩
    · replace h := h.2 (c)
      refine bw_aload_n (i := 0) dX0_takeWord_132 rfl rfl ?_
      refine bw_geti fg_BentWords_Cursor_15 rfl dX0_takeWord_133 ?_
      refine bw_aload_n (i := 0) dX0_takeWord_136 rfl rfl ?_
      refine bw_geti fg_BentWords_Cursor_34 rfl dX0_takeWord_137 ?_
      refine bw_isub dX0_takeWord_140 ?_
      refine bw_bipush (v := 8) dX0_takeWord_141 (by decide) ?_
      refine bw_icmp_le (tgt := 157) dX0_takeWord_143 (by decide) (fun c => ?_) (fun c => ?_)
      · replace h := h.1 (c)
        refine bw_iconst (v := 1) dX0_takeWord_157 (by decide) ?_
        refine bw_goto (tgt := 162) dX0_takeWord_158 (by decide) ?_
        exact bw_ireturn dX0_takeWord_162 rfl (bw_nb true) ⟨true, rfl, h⟩
      · replace h := h.2 (c)
        refine bw_aload_n (i := 0) dX0_takeWord_146 rfl rfl ?_
        refine bw_aload_n (i := 0) dX0_takeWord_147 rfl rfl ?_
        refine bw_geti fg_BentWords_Cursor_34 rfl dX0_takeWord_148 ?_
        refine bw_cVb (As := [.int (gw_i w 3 2)]) (st := []) (Q' := (fun v w1 => (decide False) = v ∧ (sw_i w 3 3 (gw_i w 3 2)) = w1)) cv_BentWords_Cursor_41 rfl rfl (fs_X0_fail (d := d + 0) (a0 := (gw_i w 3 2))  ⟨rfl, rfl⟩) rfl rfl (Nat.le_of_ble_eq_true rfl) dX0_takeWord_151 (fun v w1 hv => ?_)
        obtain ⟨rfl, rfl⟩ := hv
        refine bw_ifb_eq (tgt := 161) dX0_takeWord_154 (by decide) (fun c => ?_) (fun c => ?_)
        · replace h := h.1 (of_decide_eq_false c)
          refine bw_iconst (v := 0) dX0_takeWord_161 (by decide) ?_
          exact bw_ireturn dX0_takeWord_162 rfl (bw_nb false) ⟨false, rfl, h⟩
        · replace h := h.2 (of_decide_eq_true c)
          refine bw_iconst (v := 1) dX0_takeWord_157 (by decide) ?_
          refine bw_goto (tgt := 162) dX0_takeWord_158 (by decide) ?_
          exact bw_ireturn dX0_takeWord_162 rfl (bw_nb true) ⟨true, rfl, h⟩
  · replace h := h.2 (c)
    refine bw_aload_n (i := 0) dX0_takeWord_31 rfl rfl ?_
    refine bw_getr (r := 1) fg_BentWords_Cursor_9 rfl rfl dX0_takeWord_32 ?_
    refine bw_getr (r := 2) fg_BentWords_Cursor_27 rfl rfl dX0_takeWord_35 ?_
    refine bw_aload_n (i := 0) dX0_takeWord_38 rfl rfl ?_
    refine bw_geti fg_BentWords_Cursor_15 rfl dX0_takeWord_39 ?_
    obtain ⟨hi1, h⟩ := h
    refine bw_caload rfl hi1 dX0_takeWord_42 ?_
    refine bw_bipush (v := 97) dX0_takeWord_43 (by decide) ?_
    refine bw_icmp_lt (tgt := 121) dX0_takeWord_45 (by decide) (fun c => ?_) (fun c => ?_)
    · replace h := h.1 (c)
      refine bw_aload_n (i := 0) dX0_takeWord_121 rfl rfl ?_
      refine bw_geti fg_BentWords_Cursor_15 rfl dX0_takeWord_122 ?_
      refine bw_aload_n (i := 0) dX0_takeWord_125 rfl rfl ?_
      refine bw_geti fg_BentWords_Cursor_34 rfl dX0_takeWord_126 ?_
      refine bw_icmp_le (tgt := 146) dX0_takeWord_129 (by decide) (fun c => ?_) (fun c => ?_)
      · replace h := h.1 (c)
        refine bw_aload_n (i := 0) dX0_takeWord_146 rfl rfl ?_
        refine bw_aload_n (i := 0) dX0_takeWord_147 rfl rfl ?_
        refine bw_geti fg_BentWords_Cursor_34 rfl dX0_takeWord_148 ?_
        refine bw_cVb (As := [.int (gw_i w 3 2)]) (st := []) (Q' := (fun v w1 => (decide False) = v ∧ (sw_i w 3 3 (gw_i w 3 2)) = w1)) cv_BentWords_Cursor_41 rfl rfl (fs_X0_fail (d := d + 0) (a0 := (gw_i w 3 2))  ⟨rfl, rfl⟩) rfl rfl (Nat.le_of_ble_eq_true rfl) dX0_takeWord_151 (fun v w1 hv => ?_)
        obtain ⟨rfl, rfl⟩ := hv
        refine bw_ifb_eq (tgt := 161) dX0_takeWord_154 (by decide) (fun c => ?_) (fun c => ?_)
        · replace h := h.1 (of_decide_eq_false c)
          refine bw_iconst (v := 0) dX0_takeWord_161 (by decide) ?_
          exact bw_ireturn dX0_takeWord_162 rfl (bw_nb false) ⟨false, rfl, h⟩
        · replace h := h.2 (of_decide_eq_true c)
          refine bw_iconst (v := 1) dX0_takeWord_157 (by decide) ?_
          refine bw_goto (tgt := 162) dX0_takeWord_158 (by decide) ?_
          exact bw_ireturn dX0_takeWord_162 rfl (bw_nb true) ⟨true, rfl, h⟩
      · replace h := h.2 (c)
        refine bw_aload_n (i := 0) dX0_takeWord_132 rfl rfl ?_
        refine bw_geti fg_BentWords_Cursor_15 rfl dX0_takeWord_133 ?_
        refine bw_aload_n (i := 0) dX0_takeWord_136 rfl rfl ?_
        refine bw_geti fg_BentWords_Cursor_34 rfl dX0_takeWord_137 ?_
        refine bw_isub dX0_takeWord_140 ?_
        refine bw_bipush (v := 8) dX0_takeWord_141 (by decide) ?_
        refine bw_icmp_le (tgt := 157) dX0_takeWord_143 (by decide) (fun c => ?_) (fun c => ?_)
        · replace h := h.1 (c)
          refine bw_iconst (v := 1) dX0_takeWord_157 (by decide) ?_
          refine bw_goto (tgt := 162) dX0_takeWord_158 (by decide) ?_
          exact bw_ireturn dX0_takeWord_162 rfl (bw_nb true) ⟨true, rfl, h⟩
        · replace h := h.2 (c)
          refine bw_aload_n (i := 0) dX0_takeWord_146 rfl rfl ?_
          refine bw_aload_n (i := 0) dX0_takeWord_147 rfl rfl ?_
          refine bw_geti fg_BentWords_Cursor_34 rfl dX0_takeWord_148 ?_
          refine bw_cVb (As := [.int (gw_i w 3 2)]) (st := []) (Q' := (fun v w1 => (decide False) = v ∧ (sw_i w 3 3 (gw_i w 3 2)) = w1)) cv_BentWords_Cursor_41 rfl rfl (fs_X0_fail (d := d + 0) (a0 := (gw_i w 3 2))  ⟨rfl, rfl⟩) rfl rfl (Nat.le_of_ble_eq_true rfl) dX0_takeWord_151 (fun v w1 hv => ?_)
          obtain ⟨rfl, rfl⟩ := hv
          refine bw_ifb_eq (tgt := 161) dX0_takeWord_154 (by decide) (fun c => ?_) (fun c => ?_)
          · replace h := h.1 (of_decide_eq_false c)
            refine bw_iconst (v := 0) dX0_takeWord_161 (by decide) ?_
            exact bw_ireturn dX0_takeWord_162 rfl (bw_nb false) ⟨false, rfl, h⟩
          · replace h := h.2 (of_decide_eq_true c)
            refine bw_iconst (v := 1) dX0_takeWord_157 (by decide) ?_
            refine bw_goto (tgt := 162) dX0_takeWord_158 (by decide) ?_
            exact bw_ireturn dX0_takeWord_162 rfl (bw_nb true) ⟨true, rfl, h⟩
    · replace h := h.2 (c)
      refine bw_aload_n (i := 0) dX0_takeWord_48 rfl rfl ?_
      refine bw_getr (r := 1) fg_BentWords_Cursor_9 rfl rfl dX0_takeWord_49 ?_
      refine bw_getr (r := 2) fg_BentWords_Cursor_27 rfl rfl dX0_takeWord_52 ?_
      refine bw_aload_n (i := 0) dX0_takeWord_55 rfl rfl ?_
      refine bw_geti fg_BentWords_Cursor_15 rfl dX0_takeWord_56 ?_
      obtain ⟨hi2, h⟩ := h
      refine bw_caload rfl hi2 dX0_takeWord_59 ?_
      refine bw_bipush (v := 122) dX0_takeWord_60 (by decide) ?_
      refine bw_icmp_gt (tgt := 121) dX0_takeWord_62 (by decide) (fun c => ?_) (fun c => ?_)
      · replace h := h.1 (c)
        refine bw_aload_n (i := 0) dX0_takeWord_121 rfl rfl ?_
        refine bw_geti fg_BentWords_Cursor_15 rfl dX0_takeWord_122 ?_
        refine bw_aload_n (i := 0) dX0_takeWord_125 rfl rfl ?_
        refine bw_geti fg_BentWords_Cursor_34 rfl dX0_takeWord_126 ?_
        refine bw_icmp_le (tgt := 146) dX0_takeWord_129 (by decide) (fun c => ?_) (fun c => ?_)
        · replace h := h.1 (c)
          refine bw_aload_n (i := 0) dX0_takeWord_146 rfl rfl ?_
          refine bw_aload_n (i := 0) dX0_takeWord_147 rfl rfl ?_
          refine bw_geti fg_BentWords_Cursor_34 rfl dX0_takeWord_148 ?_
          refine bw_cVb (As := [.int (gw_i w 3 2)]) (st := []) (Q' := (fun v w1 => (decide False) = v ∧ (sw_i w 3 3 (gw_i w 3 2)) = w1)) cv_BentWords_Cursor_41 rfl rfl (fs_X0_fail (d := d + 0) (a0 := (gw_i w 3 2))  ⟨rfl, rfl⟩) rfl rfl (Nat.le_of_ble_eq_true rfl) dX0_takeWord_151 (fun v w1 hv => ?_)
          obtain ⟨rfl, rfl⟩ := hv
          refine bw_ifb_eq (tgt := 161) dX0_takeWord_154 (by decide) (fun c => ?_) (fun c => ?_)
          · replace h := h.1 (of_decide_eq_false c)
            refine bw_iconst (v := 0) dX0_takeWord_161 (by decide) ?_
            exact bw_ireturn dX0_takeWord_162 rfl (bw_nb false) ⟨false, rfl, h⟩
          · replace h := h.2 (of_decide_eq_true c)
            refine bw_iconst (v := 1) dX0_takeWord_157 (by decide) ?_
            refine bw_goto (tgt := 162) dX0_takeWord_158 (by decide) ?_
            exact bw_ireturn dX0_takeWord_162 rfl (bw_nb true) ⟨true, rfl, h⟩
        · replace h := h.2 (c)
          refine bw_aload_n (i := 0) dX0_takeWord_132 rfl rfl ?_
          refine bw_geti fg_BentWords_Cursor_15 rfl dX0_takeWord_133 ?_
          refine bw_aload_n (i := 0) dX0_takeWord_136 rfl rfl ?_
          refine bw_geti fg_BentWords_Cursor_34 rfl dX0_takeWord_137 ?_
          refine bw_isub dX0_takeWord_140 ?_
          refine bw_bipush (v := 8) dX0_takeWord_141 (by decide) ?_
          refine bw_icmp_le (tgt := 157) dX0_takeWord_143 (by decide) (fun c => ?_) (fun c => ?_)
          · replace h := h.1 (c)
            refine bw_iconst (v := 1) dX0_takeWord_157 (by decide) ?_
            refine bw_goto (tgt := 162) dX0_takeWord_158 (by decide) ?_
            exact bw_ireturn dX0_takeWord_162 rfl (bw_nb true) ⟨true, rfl, h⟩
          · replace h := h.2 (c)
            refine bw_aload_n (i := 0) dX0_takeWord_146 rfl rfl ?_
            refine bw_aload_n (i := 0) dX0_takeWord_147 rfl rfl ?_
            refine bw_geti fg_BentWords_Cursor_34 rfl dX0_takeWord_148 ?_
            refine bw_cVb (As := [.int (gw_i w 3 2)]) (st := []) (Q' := (fun v w1 => (decide False) = v ∧ (sw_i w 3 3 (gw_i w 3 2)) = w1)) cv_BentWords_Cursor_41 rfl rfl (fs_X0_fail (d := d + 0) (a0 := (gw_i w 3 2))  ⟨rfl, rfl⟩) rfl rfl (Nat.le_of_ble_eq_true rfl) dX0_takeWord_151 (fun v w1 hv => ?_)
            obtain ⟨rfl, rfl⟩ := hv
            refine bw_ifb_eq (tgt := 161) dX0_takeWord_154 (by decide) (fun c => ?_) (fun c => ?_)
            · replace h := h.1 (of_decide_eq_false c)
              refine bw_iconst (v := 0) dX0_takeWord_161 (by decide) ?_
              exact bw_ireturn dX0_takeWord_162 rfl (bw_nb false) ⟨false, rfl, h⟩
            · replace h := h.2 (of_decide_eq_true c)
              refine bw_iconst (v := 1) dX0_takeWord_157 (by decide) ?_
              refine bw_goto (tgt := 162) dX0_takeWord_158 (by decide) ?_
              exact bw_ireturn dX0_takeWord_162 rfl (bw_nb true) ⟨true, rfl, h⟩
      · replace h := h.2 (c)
        refine bw_aload_n (i := 0) dX0_takeWord_65 rfl rfl ?_
        refine bw_geti fg_BentWords_Cursor_15 rfl dX0_takeWord_66 ?_
        refine bw_aload_n (i := 0) dX0_takeWord_69 rfl rfl ?_
        refine bw_geti fg_BentWords_Cursor_34 rfl dX0_takeWord_70 ?_
        refine bw_isub dX0_takeWord_73 ?_
        refine bw_istore_n (i := 1) (L' := [some (.ref 3), some (.int ((gw_i w 3 1) - (gw_i w 3 2)))]) dX0_takeWord_74 rfl (Nat.le_of_ble_eq_true rfl) rfl ?_
        refine bw_iload_n (i := 1) dX0_takeWord_75 rfl rfl ?_
        refine bw_bipush (v := 8) dX0_takeWord_76 (by decide) ?_
        refine bw_icmp_ge (tgt := 108) dX0_takeWord_78 (by decide) (fun c => ?_) (fun c => ?_)
        · replace h := h.1 (c)
          refine bw_aload_n (i := 0) dX0_takeWord_108 rfl rfl ?_
          refine bw_dup dX0_takeWord_109 rfl ?_
          refine bw_geti fg_BentWords_Cursor_15 rfl dX0_takeWord_110 ?_
          refine bw_iconst (v := 1) dX0_takeWord_113 (by decide) ?_
          refine bw_iadd dX0_takeWord_114 ?_
          refine bw_puti fp_BentWords_Cursor_15 rfl rfl rfl dX0_takeWord_115 ?_
          refine bw_goto (tgt := 17) dX0_takeWord_118 (by decide) ?_
          exact bw_wk [1] rfl h
        · replace h := h.2 (c)
          refine bw_aload_n (i := 0) dX0_takeWord_81 rfl rfl ?_
          refine bw_dup dX0_takeWord_82 rfl ?_
          refine bw_getl fg_BentWords_Cursor_37 rfl dX0_takeWord_83 ?_
          refine bw_aload_n (i := 0) dX0_takeWord_86 rfl rfl ?_
          refine bw_getr (r := 1) fg_BentWords_Cursor_9 rfl rfl dX0_takeWord_87 ?_
          refine bw_getr (r := 2) fg_BentWords_Cursor_27 rfl rfl dX0_takeWord_90 ?_
          refine bw_aload_n (i := 0) dX0_takeWord_93 rfl rfl ?_
          refine bw_geti fg_BentWords_Cursor_15 rfl dX0_takeWord_94 ?_
          obtain ⟨hi3, h⟩ := h
          refine bw_caload rfl hi3 dX0_takeWord_97 ?_
          refine bw_i2l dX0_takeWord_98 ?_
          refine bw_bipush (v := 8) dX0_takeWord_99 (by decide) ?_
          refine bw_iload_n (i := 1) dX0_takeWord_101 rfl rfl ?_
          refine bw_imul dX0_takeWord_102 ?_
          refine bw_lshl dX0_takeWord_103 ?_
          refine bw_lor dX0_takeWord_104 ?_
          refine bw_putl fp_BentWords_Cursor_37 rfl dX0_takeWord_105 ?_
          refine bw_aload_n (i := 0) dX0_takeWord_108 rfl rfl ?_
          refine bw_dup dX0_takeWord_109 rfl ?_
          refine bw_geti fg_BentWords_Cursor_15 rfl dX0_takeWord_110 ?_
          rw [show gw_i (sw_l w 3 5 ((gw_l w 3 5) ||| (((gw_i w 2 ((gw_i w 3 1).toNatClampNeg)).toInt64) <<< ((8 * ((gw_i w 3 1) - (gw_i w 3 2))).toInt64 &&& 63)))) 3 1 = (gw_i w 3 1) from rfl]
          refine bw_iconst (v := 1) dX0_takeWord_113 (by decide) ?_
          refine bw_iadd dX0_takeWord_114 ?_
          refine bw_puti fp_BentWords_Cursor_15 rfl rfl rfl dX0_takeWord_115 ?_
          refine bw_goto (tgt := 17) dX0_takeWord_118 (by decide) ?_
          exact bw_wk [1] rfl h
theorem wfX0_takeWord {E : bw_E} {d : Nat} {w : bw_W} {Q : Bool → bw_W → Prop}   (h : (∃ Q1 : bw_W → Prop, bw_rv E (d + 0) mX0_skipBlanks [.ref 3] w Q1 ∧ ∀ w3, Q1 w3 →
bw_G E (d + 1) mX0_takeWord 17 [some (.ref 3), none] [] (sw_l (sw_i w3 3 2 (gw_i w3 3 1)) 3 5 0) (bw_qb Q))) : bw_rb E (d + 1) mX0_takeWord [.ref 3] w Q := by
  refine bw_enter rfl (Nat.le_of_ble_eq_true rfl) ?_
  refine bw_aload_n (i := 0) dX0_takeWord_0 rfl rfl ?_
  obtain ⟨Q1, hr, h⟩ := h
  refine bw_cVv (As := []) (st := []) cv_BentWords_Cursor_31 rfl rfl hr rfl rfl (Nat.le_of_ble_eq_true rfl) dX0_takeWord_1 (fun w3 hv => ?_)
  replace h := h w3 hv
  clear hr
  refine bw_aload_n (i := 0) dX0_takeWord_4 rfl rfl ?_
  refine bw_aload_n (i := 0) dX0_takeWord_5 rfl rfl ?_
  refine bw_geti fg_BentWords_Cursor_15 rfl dX0_takeWord_6 ?_
  refine bw_puti fp_BentWords_Cursor_34 rfl rfl rfl dX0_takeWord_9 ?_
  refine bw_aload_n (i := 0) dX0_takeWord_12 rfl rfl ?_
  refine bw_lconst (v := 0) dX0_takeWord_13 rfl ?_
  refine bw_putl fp_BentWords_Cursor_37 rfl dX0_takeWord_14 ?_
  exact h
theorem wfX0_takeNumber_17 {E : bw_E} {d : Nat} {w : bw_W} {Q : Bool → bw_W → Prop} {l1 : Int32} {l2 : Int32}  (h : (((gw_i w 1 1) ≤ (gw_i w 3 1) → (((gw_i w 3 1) ≤ (gw_i w 3 2) → ((¬ False → Q false (sw_i w 3 3 (gw_i w 3 2))) ∧ (False → Q true (sw_i w 3 3 (gw_i w 3 2))))) ∧ (¬ ((gw_i w 3 1) ≤ (gw_i w 3 2)) → ((l1 < ((gw_i w 3 1) - (gw_i w 3 2)) → ((¬ False → Q false (sw_i w 3 3 (gw_i w 3 2))) ∧ (False → Q true (sw_i w 3 3 (gw_i w 3 2))))) ∧ (¬ (l1 < ((gw_i w 3 1) - (gw_i w 3 2))) → ((l2 < (gw_i w 3 4) → ((¬ False → Q false (sw_i w 3 3 (gw_i w 3 2))) ∧ (False → Q true (sw_i w 3 3 (gw_i w 3 2))))) ∧ (¬ (l2 < (gw_i w 3 4)) → Q true w))))))) ∧ (¬ ((gw_i w 1 1) ≤ (gw_i w 3 1)) → (vp_in (gw_i w 3 1) 480) ∧
(((gw_i w 2 ((gw_i w 3 1).toNatClampNeg)) < 48 → (((gw_i w 3 1) ≤ (gw_i w 3 2) → ((¬ False → Q false (sw_i w 3 3 (gw_i w 3 2))) ∧ (False → Q true (sw_i w 3 3 (gw_i w 3 2))))) ∧ (¬ ((gw_i w 3 1) ≤ (gw_i w 3 2)) → ((l1 < ((gw_i w 3 1) - (gw_i w 3 2)) → ((¬ False → Q false (sw_i w 3 3 (gw_i w 3 2))) ∧ (False → Q true (sw_i w 3 3 (gw_i w 3 2))))) ∧ (¬ (l1 < ((gw_i w 3 1) - (gw_i w 3 2))) → ((l2 < (gw_i w 3 4) → ((¬ False → Q false (sw_i w 3 3 (gw_i w 3 2))) ∧ (False → Q true (sw_i w 3 3 (gw_i w 3 2))))) ∧ (¬ (l2 < (gw_i w 3 4)) → Q true w))))))) ∧ (¬ ((gw_i w 2 ((gw_i w 3 1).toNatClampNeg)) < 48) → (vp_in (gw_i w 3 1) 480) ∧
((57 < (gw_i w 2 ((gw_i w 3 1).toNatClampNeg)) → (((gw_i w 3 1) ≤ (gw_i w 3 2) → ((¬ False → Q false (sw_i w 3 3 (gw_i w 3 2))) ∧ (False → Q true (sw_i w 3 3 (gw_i w 3 2))))) ∧ (¬ ((gw_i w 3 1) ≤ (gw_i w 3 2)) → ((l1 < ((gw_i w 3 1) - (gw_i w 3 2)) → ((¬ False → Q false (sw_i w 3 3 (gw_i w 3 2))) ∧ (False → Q true (sw_i w 3 3 (gw_i w 3 2))))) ∧ (¬ (l1 < ((gw_i w 3 1) - (gw_i w 3 2))) → ((l2 < (gw_i w 3 4) → ((¬ False → Q false (sw_i w 3 3 (gw_i w 3 2))) ∧ (False → Q true (sw_i w 3 3 (gw_i w 3 2))))) ∧ (¬ (l2 < (gw_i w 3 4)) → Q true w))))))) ∧ (¬ (57 < (gw_i w 2 ((gw_i w 3 1).toNatClampNeg))) → ((l1 ≤ ((gw_i w 3 1) - (gw_i w 3 2)) → bw_G E (d + 1) mX0_takeNumber 17 [some (.ref 3), some (.int l1), some (.int l2), none] [] (sw_i w 3 1 ((gw_i w 3 1) + 1)) (bw_qb Q)) ∧ (¬ (l1 ≤ ((gw_i w 3 1) - (gw_i w 3 2))) → (vp_in (gw_i w 3 1) 480) ∧
bw_G E (d + 1) mX0_takeNumber 17 [some (.ref 3), some (.int l1), some (.int l2), none] [] (sw_i (sw_i w 3 4 ((((gw_i w 3 4) * 10) + (gw_i w 2 ((gw_i w 3 1).toNatClampNeg))) - 48)) 3 1 ((gw_i w 3 1) + 1)) (bw_qb Q)))))))))) : bw_G E (d + 1) mX0_takeNumber 17 [some (.ref 3), some (.int l1), some (.int l2), none] [] w (bw_qb Q) := by
  refine bw_aload_n (i := 0) dX0_takeNumber_17 rfl rfl ?_
  refine bw_geti fg_BentWords_Cursor_15 rfl dX0_takeNumber_18 ?_
  refine bw_aload_n (i := 0) dX0_takeNumber_21 rfl rfl ?_
  refine bw_getr (r := 1) fg_BentWords_Cursor_9 rfl rfl dX0_takeNumber_22 ?_
  refine bw_geti fg_BentWords_Cursor_22 rfl dX0_takeNumber_25 ?_
  refine bw_icmp_ge (tgt := 118) dX0_takeNumber_28 (by decide) (fun c => ?_) (fun c => ?_)
  · replace h := h.1 (c)
    refine bw_aload_n (i := 0) dX0_takeNumber_118 rfl rfl ?_
    refine bw_geti fg_BentWords_Cursor_15 rfl dX0_takeNumber_119 ?_
    refine bw_aload_n (i := 0) dX0_takeNumber_122 rfl rfl ?_
    refine bw_geti fg_BentWords_Cursor_34 rfl dX0_takeNumber_123 ?_
    refine bw_icmp_le (tgt := 154) dX0_takeNumber_126 (by decide) (fun c => ?_) (fun c => ?_)
    · replace h := h.1 (c)
      refine bw_iconst (v := 0) dX0_takeNumber_154 (by decide) ?_
      refine bw_istore_n (i := 3) (L' := [some (.ref 3), some (.int l1), some (.int l2), some (.int 0)]) dX0_takeNumber_155 rfl (Nat.le_of_ble_eq_true rfl) rfl ?_
      refine bw_iload_n (i := 3) dX0_takeNumber_156 rfl rfl ?_
      refine bw_if_ne (tgt := 171) dX0_takeNumber_157 (by decide) (fun c => absurd c (by decide)) (fun _ => ?_)
      refine bw_aload_n (i := 0) dX0_takeNumber_160 rfl rfl ?_
      refine bw_aload_n (i := 0) dX0_takeNumber_161 rfl rfl ?_
      refine bw_geti fg_BentWords_Cursor_34 rfl dX0_takeNumber_162 ?_
      refine bw_cVb (As := [.int (gw_i w 3 2)]) (st := []) (Q' := (fun v w1 => (decide False) = v ∧ (sw_i w 3 3 (gw_i w 3 2)) = w1)) cv_BentWords_Cursor_41 rfl rfl (fs_X0_fail (d := d + 0) (a0 := (gw_i w 3 2))  ⟨rfl, rfl⟩) rfl rfl (Nat.le_of_ble_eq_true rfl) dX0_takeNumber_165 (fun v w1 hv => ?_)
      obtain ⟨rfl, rfl⟩ := hv
      refine bw_ifb_eq (tgt := 175) dX0_takeNumber_168 (by decide) (fun c => ?_) (fun c => ?_)
      · replace h := h.1 (of_decide_eq_false c)
        refine bw_iconst (v := 0) dX0_takeNumber_175 (by decide) ?_
        exact bw_ireturn dX0_takeNumber_176 rfl (bw_nb false) ⟨false, rfl, h⟩
      · replace h := h.2 (of_decide_eq_true c)
        refine bw_iconst (v := 1) dX0_takeNumber_171 (by decide) ?_
        refine bw_goto (tgt := 176) dX0_takeNumber_172 (by decide) ?_
        exact bw_ireturn dX0_takeNumber_176 rfl (bw_nb true) ⟨true, rfl, h⟩
    · replace h := h.2 (c)
      refine bw_aload_n (i := 0) dX0_takeNumber_129 rfl rfl ?_
      refine bw_geti fg_BentWords_Cursor_15 rfl dX0_takeNumber_130 ?_
      refine bw_aload_n (i := 0) dX0_takeNumber_133 rfl rfl ?_
      refine bw_geti fg_BentWords_Cursor_34 rfl dX0_takeNumber_134 ?_
      refine bw_isub dX0_takeNumber_137 ?_
      refine bw_iload_n (i := 1) dX0_takeNumber_138 rfl rfl ?_
      refine bw_icmp_gt (tgt := 154) dX0_takeNumber_139 (by decide) (fun c => ?_) (fun c => ?_)
      · replace h := h.1 (c)
        refine bw_iconst (v := 0) dX0_takeNumber_154 (by decide) ?_
        refine bw_istore_n (i := 3) (L' := [some (.ref 3), some (.int l1), some (.int l2), some (.int 0)]) dX0_takeNumber_155 rfl (Nat.le_of_ble_eq_true rfl) rfl ?_
        refine bw_iload_n (i := 3) dX0_takeNumber_156 rfl rfl ?_
        refine bw_if_ne (tgt := 171) dX0_takeNumber_157 (by decide) (fun c => absurd c (by decide)) (fun _ => ?_)
        refine bw_aload_n (i := 0) dX0_takeNumber_160 rfl rfl ?_
        refine bw_aload_n (i := 0) dX0_takeNumber_161 rfl rfl ?_
        refine bw_geti fg_BentWords_Cursor_34 rfl dX0_takeNumber_162 ?_
        refine bw_cVb (As := [.int (gw_i w 3 2)]) (st := []) (Q' := (fun v w1 => (decide False) = v ∧ (sw_i w 3 3 (gw_i w 3 2)) = w1)) cv_BentWords_Cursor_41 rfl rfl (fs_X0_fail (d := d + 0) (a0 := (gw_i w 3 2))  ⟨rfl, rfl⟩) rfl rfl (Nat.le_of_ble_eq_true rfl) dX0_takeNumber_165 (fun v w1 hv => ?_)
        obtain ⟨rfl, rfl⟩ := hv
        refine bw_ifb_eq (tgt := 175) dX0_takeNumber_168 (by decide) (fun c => ?_) (fun c => ?_)
        · replace h := h.1 (of_decide_eq_false c)
          refine bw_iconst (v := 0) dX0_takeNumber_175 (by decide) ?_
          exact bw_ireturn dX0_takeNumber_176 rfl (bw_nb false) ⟨false, rfl, h⟩
        · replace h := h.2 (of_decide_eq_true c)
          refine bw_iconst (v := 1) dX0_takeNumber_171 (by decide) ?_
          refine bw_goto (tgt := 176) dX0_takeNumber_172 (by decide) ?_
          exact bw_ireturn dX0_takeNumber_176 rfl (bw_nb true) ⟨true, rfl, h⟩
      · replace h := h.2 (c)
        refine bw_aload_n (i := 0) dX0_takeNumber_142 rfl rfl ?_
        refine bw_geti fg_BentWords_Cursor_45 rfl dX0_takeNumber_143 ?_
        refine bw_iload_n (i := 2) dX0_takeNumber_146 rfl rfl ?_
        refine bw_icmp_gt (tgt := 154) dX0_takeNumber_147 (by decide) (fun c => ?_) (fun c => ?_)
        · replace h := h.1 (c)
          refine bw_iconst (v := 0) dX0_takeNumber_154 (by decide) ?_
          refine bw_istore_n (i := 3) (L' := [some (.ref 3), some (.int l1), some (.int l2), some (.int 0)]) dX0_takeNumber_155 rfl (Nat.le_of_ble_eq_true rfl) rfl ?_
          refine bw_iload_n (i := 3) dX0_takeNumber_156 rfl rfl ?_
          refine bw_if_ne (tgt := 171) dX0_takeNumber_157 (by decide) (fun c => absurd c (by decide)) (fun _ => ?_)
          refine bw_aload_n (i := 0) dX0_takeNumber_160 rfl rfl ?_
          refine bw_aload_n (i := 0) dX0_takeNumber_161 rfl rfl ?_
          refine bw_geti fg_BentWords_Cursor_34 rfl dX0_takeNumber_162 ?_
          refine bw_cVb (As := [.int (gw_i w 3 2)]) (st := []) (Q' := (fun v w1 => (decide False) = v ∧ (sw_i w 3 3 (gw_i w 3 2)) = w1)) cv_BentWords_Cursor_41 rfl rfl (fs_X0_fail (d := d + 0) (a0 := (gw_i w 3 2))  ⟨rfl, rfl⟩) rfl rfl (Nat.le_of_ble_eq_true rfl) dX0_takeNumber_165 (fun v w1 hv => ?_)
          obtain ⟨rfl, rfl⟩ := hv
          refine bw_ifb_eq (tgt := 175) dX0_takeNumber_168 (by decide) (fun c => ?_) (fun c => ?_)
          · replace h := h.1 (of_decide_eq_false c)
            refine bw_iconst (v := 0) dX0_takeNumber_175 (by decide) ?_
            exact bw_ireturn dX0_takeNumber_176 rfl (bw_nb false) ⟨false, rfl, h⟩
          · replace h := h.2 (of_decide_eq_true c)
            refine bw_iconst (v := 1) dX0_takeNumber_171 (by decide) ?_
            refine bw_goto (tgt := 176) dX0_takeNumber_172 (by decide) ?_
            exact bw_ireturn dX0_takeNumber_176 rfl (bw_nb true) ⟨true, rfl, h⟩
        · replace h := h.2 (c)
          refine bw_iconst (v := 1) dX0_takeNumber_150 (by decide) ?_
          refine bw_goto (tgt := 155) dX0_takeNumber_151 (by decide) ?_
          refine bw_istore_n (i := 3) (L' := [some (.ref 3), some (.int l1), some (.int l2), some (.int 1)]) dX0_takeNumber_155 rfl (Nat.le_of_ble_eq_true rfl) rfl ?_
          refine bw_iload_n (i := 3) dX0_takeNumber_156 rfl rfl ?_
          refine bw_if_ne (tgt := 171) dX0_takeNumber_157 (by decide) (fun _ => ?_) (fun c => absurd c (by decide))
          refine bw_iconst (v := 1) dX0_takeNumber_171 (by decide) ?_
          refine bw_goto (tgt := 176) dX0_takeNumber_172 (by decide) ?_
          exact bw_ireturn dX0_takeNumber_176 rfl (bw_nb true) ⟨true, rfl, h⟩
  · replace h := h.2 (c)
    refine bw_aload_n (i := 0) dX0_takeNumber_31 rfl rfl ?_
    refine bw_getr (r := 1) fg_BentWords_Cursor_9 rfl rfl dX0_takeNumber_32 ?_
    refine bw_getr (r := 2) fg_BentWords_Cursor_27 rfl rfl dX0_takeNumber_35 ?_
    refine bw_aload_n (i := 0) dX0_takeNumber_38 rfl rfl ?_
    refine bw_geti fg_BentWords_Cursor_15 rfl dX0_takeNumber_39 ?_
    obtain ⟨hi1, h⟩ := h
    refine bw_caload rfl hi1 dX0_takeNumber_42 ?_
    refine bw_bipush (v := 48) dX0_takeNumber_43 (by decide) ?_
    refine bw_icmp_lt (tgt := 118) dX0_takeNumber_45 (by decide) (fun c => ?_) (fun c => ?_)
    · replace h := h.1 (c)
      refine bw_aload_n (i := 0) dX0_takeNumber_118 rfl rfl ?_
      refine bw_geti fg_BentWords_Cursor_15 rfl dX0_takeNumber_119 ?_
      refine bw_aload_n (i := 0) dX0_takeNumber_122 rfl rfl ?_
      refine bw_geti fg_BentWords_Cursor_34 rfl dX0_takeNumber_123 ?_
      refine bw_icmp_le (tgt := 154) dX0_takeNumber_126 (by decide) (fun c => ?_) (fun c => ?_)
      · replace h := h.1 (c)
        refine bw_iconst (v := 0) dX0_takeNumber_154 (by decide) ?_
        refine bw_istore_n (i := 3) (L' := [some (.ref 3), some (.int l1), some (.int l2), some (.int 0)]) dX0_takeNumber_155 rfl (Nat.le_of_ble_eq_true rfl) rfl ?_
        refine bw_iload_n (i := 3) dX0_takeNumber_156 rfl rfl ?_
        refine bw_if_ne (tgt := 171) dX0_takeNumber_157 (by decide) (fun c => absurd c (by decide)) (fun _ => ?_)
        refine bw_aload_n (i := 0) dX0_takeNumber_160 rfl rfl ?_
        refine bw_aload_n (i := 0) dX0_takeNumber_161 rfl rfl ?_
        refine bw_geti fg_BentWords_Cursor_34 rfl dX0_takeNumber_162 ?_
        refine bw_cVb (As := [.int (gw_i w 3 2)]) (st := []) (Q' := (fun v w1 => (decide False) = v ∧ (sw_i w 3 3 (gw_i w 3 2)) = w1)) cv_BentWords_Cursor_41 rfl rfl (fs_X0_fail (d := d + 0) (a0 := (gw_i w 3 2))  ⟨rfl, rfl⟩) rfl rfl (Nat.le_of_ble_eq_true rfl) dX0_takeNumber_165 (fun v w1 hv => ?_)
        obtain ⟨rfl, rfl⟩ := hv
        refine bw_ifb_eq (tgt := 175) dX0_takeNumber_168 (by decide) (fun c => ?_) (fun c => ?_)
        · replace h := h.1 (of_decide_eq_false c)
          refine bw_iconst (v := 0) dX0_takeNumber_175 (by decide) ?_
          exact bw_ireturn dX0_takeNumber_176 rfl (bw_nb false) ⟨false, rfl, h⟩
        · replace h := h.2 (of_decide_eq_true c)
          refine bw_iconst (v := 1) dX0_takeNumber_171 (by decide) ?_
          refine bw_goto (tgt := 176) dX0_takeNumber_172 (by decide) ?_
          exact bw_ireturn dX0_takeNumber_176 rfl (bw_nb true) ⟨true, rfl, h⟩
      · replace h := h.2 (c)
        refine bw_aload_n (i := 0) dX0_takeNumber_129 rfl rfl ?_
        refine bw_geti fg_BentWords_Cursor_15 rfl dX0_takeNumber_130 ?_
        refine bw_aload_n (i := 0) dX0_takeNumber_133 rfl rfl ?_
        refine bw_geti fg_BentWords_Cursor_34 rfl dX0_takeNumber_134 ?_
        refine bw_isub dX0_takeNumber_137 ?_
        refine bw_iload_n (i := 1) dX0_takeNumber_138 rfl rfl ?_
        refine bw_icmp_gt (tgt := 154) dX0_takeNumber_139 (by decide) (fun c => ?_) (fun c => ?_)
        · replace h := h.1 (c)
          refine bw_iconst (v := 0) dX0_takeNumber_154 (by decide) ?_
          refine bw_istore_n (i := 3) (L' := [some (.ref 3), some (.int l1), some (.int l2), some (.int 0)]) dX0_takeNumber_155 rfl (Nat.le_of_ble_eq_true rfl) rfl ?_
          refine bw_iload_n (i := 3) dX0_takeNumber_156 rfl rfl ?_
          refine bw_if_ne (tgt := 171) dX0_takeNumber_157 (by decide) (fun c => absurd c (by decide)) (fun _ => ?_)
          refine bw_aload_n (i := 0) dX0_takeNumber_160 rfl rfl ?_
          refine bw_aload_n (i := 0) dX0_takeNumber_161 rfl rfl ?_
          refine bw_geti fg_BentWords_Cursor_34 rfl dX0_takeNumber_162 ?_
          refine bw_cVb (As := [.int (gw_i w 3 2)]) (st := []) (Q' := (fun v w1 => (decide False) = v ∧ (sw_i w 3 3 (gw_i w 3 2)) = w1)) cv_BentWords_Cursor_41 rfl rfl (fs_X0_fail (d := d + 0) (a0 := (gw_i w 3 2))  ⟨rfl, rfl⟩) rfl rfl (Nat.le_of_ble_eq_true rfl) dX0_takeNumber_165 (fun v w1 hv => ?_)
          obtain ⟨rfl, rfl⟩ := hv
          refine bw_ifb_eq (tgt := 175) dX0_takeNumber_168 (by decide) (fun c => ?_) (fun c => ?_)
          · replace h := h.1 (of_decide_eq_false c)
            refine bw_iconst (v := 0) dX0_takeNumber_175 (by decide) ?_
            exact bw_ireturn dX0_takeNumber_176 rfl (bw_nb false) ⟨false, rfl, h⟩
          · replace h := h.2 (of_decide_eq_true c)
            refine bw_iconst (v := 1) dX0_takeNumber_171 (by decide) ?_
            refine bw_goto (tgt := 176) dX0_takeNumber_172 (by decide) ?_
            exact bw_ireturn dX0_takeNumber_176 rfl (bw_nb true) ⟨true, rfl, h⟩
        · replace h := h.2 (c)
          refine bw_aload_n (i := 0) dX0_takeNumber_142 rfl rfl ?_
          refine bw_geti fg_BentWords_Cursor_45 rfl dX0_takeNumber_143 ?_
          refine bw_iload_n (i := 2) dX0_takeNumber_146 rfl rfl ?_
          refine bw_icmp_gt (tgt := 154) dX0_takeNumber_147 (by decide) (fun c => ?_) (fun c => ?_)
          · replace h := h.1 (c)
            refine bw_iconst (v := 0) dX0_takeNumber_154 (by decide) ?_
            refine bw_istore_n (i := 3) (L' := [some (.ref 3), some (.int l1), some (.int l2), some (.int 0)]) dX0_takeNumber_155 rfl (Nat.le_of_ble_eq_true rfl) rfl ?_
            refine bw_iload_n (i := 3) dX0_takeNumber_156 rfl rfl ?_
            refine bw_if_ne (tgt := 171) dX0_takeNumber_157 (by decide) (fun c => absurd c (by decide)) (fun _ => ?_)
            refine bw_aload_n (i := 0) dX0_takeNumber_160 rfl rfl ?_
            refine bw_aload_n (i := 0) dX0_takeNumber_161 rfl rfl ?_
            refine bw_geti fg_BentWords_Cursor_34 rfl dX0_takeNumber_162 ?_
            refine bw_cVb (As := [.int (gw_i w 3 2)]) (st := []) (Q' := (fun v w1 => (decide False) = v ∧ (sw_i w 3 3 (gw_i w 3 2)) = w1)) cv_BentWords_Cursor_41 rfl rfl (fs_X0_fail (d := d + 0) (a0 := (gw_i w 3 2))  ⟨rfl, rfl⟩) rfl rfl (Nat.le_of_ble_eq_true rfl) dX0_takeNumber_165 (fun v w1 hv => ?_)
            obtain ⟨rfl, rfl⟩ := hv
            refine bw_ifb_eq (tgt := 175) dX0_takeNumber_168 (by decide) (fun c => ?_) (fun c => ?_)
            · replace h := h.1 (of_decide_eq_false c)
              refine bw_iconst (v := 0) dX0_takeNumber_175 (by decide) ?_
              exact bw_ireturn dX0_takeNumber_176 rfl (bw_nb false) ⟨false, rfl, h⟩
            · replace h := h.2 (of_decide_eq_true c)
              refine bw_iconst (v := 1) dX0_takeNumber_171 (by decide) ?_
              refine bw_goto (tgt := 176) dX0_takeNumber_172 (by decide) ?_
              exact bw_ireturn dX0_takeNumber_176 rfl (bw_nb true) ⟨true, rfl, h⟩
          · replace h := h.2 (c)
            refine bw_iconst (v := 1) dX0_takeNumber_150 (by decide) ?_
            refine bw_goto (tgt := 155) dX0_takeNumber_151 (by decide) ?_
            refine bw_istore_n (i := 3) (L' := [some (.ref 3), some (.int l1), some (.int l2), some (.int 1)]) dX0_takeNumber_155 rfl (Nat.le_of_ble_eq_true rfl) rfl ?_
            refine bw_iload_n (i := 3) dX0_takeNumber_156 rfl rfl ?_
            refine bw_if_ne (tgt := 171) dX0_takeNumber_157 (by decide) (fun _ => ?_) (fun c => absurd c (by decide))
            refine bw_iconst (v := 1) dX0_takeNumber_171 (by decide) ?_
            refine bw_goto (tgt := 176) dX0_takeNumber_172 (by decide) ?_
            exact bw_ireturn dX0_takeNumber_176 rfl (bw_nb true) ⟨true, rfl, h⟩
    · replace h := h.2 (c)
      refine bw_aload_n (i := 0) dX0_takeNumber_48 rfl rfl ?_
      refine bw_getr (r := 1) fg_BentWords_Cursor_9 rfl rfl dX0_takeNumber_49 ?_
      refine bw_getr (r := 2) fg_BentWords_Cursor_27 rfl rfl dX0_takeNumber_52 ?_
      refine bw_aload_n (i := 0) dX0_takeNumber_55 rfl rfl ?_
      refine bw_geti fg_BentWords_Cursor_15 rfl dX0_takeNumber_56 ?_
      obtain ⟨hi2, h⟩ := h
      refine bw_caload rfl hi2 dX0_takeNumber_59 ?_
      refine bw_bipush (v := 57) dX0_takeNumber_60 (by decide) ?_
      refine bw_icmp_gt (tgt := 118) dX0_takeNumber_62 (by decide) (fun c => ?_) (fun c => ?_)
      · replace h := h.1 (c)
        refine bw_aload_n (i := 0) dX0_takeNumber_118 rfl rfl ?_
        refine bw_geti fg_BentWords_Cursor_15 rfl dX0_takeNumber_119 ?_
        refine bw_aload_n (i := 0) dX0_takeNumber_122 rfl rfl ?_
        refine bw_geti fg_BentWords_Cursor_34 rfl dX0_takeNumber_123 ?_
        refine bw_icmp_le (tgt := 154) dX0_takeNumber_126 (by decide) (fun c => ?_) (fun c => ?_)
        · replace h := h.1 (c)
          refine bw_iconst (v := 0) dX0_takeNumber_154 (by decide) ?_
          refine bw_istore_n (i := 3) (L' := [some (.ref 3), some (.int l1), some (.int l2), some (.int 0)]) dX0_takeNumber_155 rfl (Nat.le_of_ble_eq_true rfl) rfl ?_
          refine bw_iload_n (i := 3) dX0_takeNumber_156 rfl rfl ?_
          refine bw_if_ne (tgt := 171) dX0_takeNumber_157 (by decide) (fun c => absurd c (by decide)) (fun _ => ?_)
          refine bw_aload_n (i := 0) dX0_takeNumber_160 rfl rfl ?_
          refine bw_aload_n (i := 0) dX0_takeNumber_161 rfl rfl ?_
          refine bw_geti fg_BentWords_Cursor_34 rfl dX0_takeNumber_162 ?_
          refine bw_cVb (As := [.int (gw_i w 3 2)]) (st := []) (Q' := (fun v w1 => (decide False) = v ∧ (sw_i w 3 3 (gw_i w 3 2)) = w1)) cv_BentWords_Cursor_41 rfl rfl (fs_X0_fail (d := d + 0) (a0 := (gw_i w 3 2))  ⟨rfl, rfl⟩) rfl rfl (Nat.le_of_ble_eq_true rfl) dX0_takeNumber_165 (fun v w1 hv => ?_)
          obtain ⟨rfl, rfl⟩ := hv
          refine bw_ifb_eq (tgt := 175) dX0_takeNumber_168 (by decide) (fun c => ?_) (fun c => ?_)
          · replace h := h.1 (of_decide_eq_false c)
            refine bw_iconst (v := 0) dX0_takeNumber_175 (by decide) ?_
            exact bw_ireturn dX0_takeNumber_176 rfl (bw_nb false) ⟨false, rfl, h⟩
          · replace h := h.2 (of_decide_eq_true c)
            refine bw_iconst (v := 1) dX0_takeNumber_171 (by decide) ?_
            refine bw_goto (tgt := 176) dX0_takeNumber_172 (by decide) ?_
            exact bw_ireturn dX0_takeNumber_176 rfl (bw_nb true) ⟨true, rfl, h⟩
        · replace h := h.2 (c)
          refine bw_aload_n (i := 0) dX0_takeNumber_129 rfl rfl ?_
          refine bw_geti fg_BentWords_Cursor_15 rfl dX0_takeNumber_130 ?_
          refine bw_aload_n (i := 0) dX0_takeNumber_133 rfl rfl ?_
          refine bw_geti fg_BentWords_Cursor_34 rfl dX0_takeNumber_134 ?_
          refine bw_isub dX0_takeNumber_137 ?_
          refine bw_iload_n (i := 1) dX0_takeNumber_138 rfl rfl ?_
          refine bw_icmp_gt (tgt := 154) dX0_takeNumber_139 (by decide) (fun c => ?_) (fun c => ?_)
          · replace h := h.1 (c)
            refine bw_iconst (v := 0) dX0_takeNumber_154 (by decide) ?_
            refine bw_istore_n (i := 3) (L' := [some (.ref 3), some (.int l1), some (.int l2), some (.int 0)]) dX0_takeNumber_155 rfl (Nat.le_of_ble_eq_true rfl) rfl ?_
            refine bw_iload_n (i := 3) dX0_takeNumber_156 rfl rfl ?_
            refine bw_if_ne (tgt := 171) dX0_takeNumber_157 (by decide) (fun c => absurd c (by decide)) (fun _ => ?_)
            refine bw_aload_n (i := 0) dX0_takeNumber_160 rfl rfl ?_
            refine bw_aload_n (i := 0) dX0_takeNumber_161 rfl rfl ?_
            refine bw_geti fg_BentWords_Cursor_34 rfl dX0_takeNumber_162 ?_
            refine bw_cVb (As := [.int (gw_i w 3 2)]) (st := []) (Q' := (fun v w1 => (decide False) = v ∧ (sw_i w 3 3 (gw_i w 3 2)) = w1)) cv_BentWords_Cursor_41 rfl rfl (fs_X0_fail (d := d + 0) (a0 := (gw_i w 3 2))  ⟨rfl, rfl⟩) rfl rfl (Nat.le_of_ble_eq_true rfl) dX0_takeNumber_165 (fun v w1 hv => ?_)
            obtain ⟨rfl, rfl⟩ := hv
            refine bw_ifb_eq (tgt := 175) dX0_takeNumber_168 (by decide) (fun c => ?_) (fun c => ?_)
            · replace h := h.1 (of_decide_eq_false c)
              refine bw_iconst (v := 0) dX0_takeNumber_175 (by decide) ?_
              exact bw_ireturn dX0_takeNumber_176 rfl (bw_nb false) ⟨false, rfl, h⟩
            · replace h := h.2 (of_decide_eq_true c)
              refine bw_iconst (v := 1) dX0_takeNumber_171 (by decide) ?_
              refine bw_goto (tgt := 176) dX0_takeNumber_172 (by decide) ?_
              exact bw_ireturn dX0_takeNumber_176 rfl (bw_nb true) ⟨true, rfl, h⟩
          · replace h := h.2 (c)
            refine bw_aload_n (i := 0) dX0_takeNumber_142 rfl rfl ?_
            refine bw_geti fg_BentWords_Cursor_45 rfl dX0_takeNumber_143 ?_
            refine bw_iload_n (i := 2) dX0_takeNumber_146 rfl rfl ?_
            refine bw_icmp_gt (tgt := 154) dX0_takeNumber_147 (by decide) (fun c => ?_) (fun c => ?_)
            · replace h := h.1 (c)
              refine bw_iconst (v := 0) dX0_takeNumber_154 (by decide) ?_
              refine bw_istore_n (i := 3) (L' := [some (.ref 3), some (.int l1), some (.int l2), some (.int 0)]) dX0_takeNumber_155 rfl (Nat.le_of_ble_eq_true rfl) rfl ?_
              refine bw_iload_n (i := 3) dX0_takeNumber_156 rfl rfl ?_
              refine bw_if_ne (tgt := 171) dX0_takeNumber_157 (by decide) (fun c => absurd c (by decide)) (fun _ => ?_)
              refine bw_aload_n (i := 0) dX0_takeNumber_160 rfl rfl ?_
              refine bw_aload_n (i := 0) dX0_takeNumber_161 rfl rfl ?_
              refine bw_geti fg_BentWords_Cursor_34 rfl dX0_takeNumber_162 ?_
              refine bw_cVb (As := [.int (gw_i w 3 2)]) (st := []) (Q' := (fun v w1 => (decide False) = v ∧ (sw_i w 3 3 (gw_i w 3 2)) = w1)) cv_BentWords_Cursor_41 rfl rfl (fs_X0_fail (d := d + 0) (a0 := (gw_i w 3 2))  ⟨rfl, rfl⟩) rfl rfl (Nat.le_of_ble_eq_true rfl) dX0_takeNumber_165 (fun v w1 hv => ?_)
              obtain ⟨rfl, rfl⟩ := hv
              refine bw_ifb_eq (tgt := 175) dX0_takeNumber_168 (by decide) (fun c => ?_) (fun c => ?_)
              · replace h := h.1 (of_decide_eq_false c)
                refine bw_iconst (v := 0) dX0_takeNumber_175 (by decide) ?_
                exact bw_ireturn dX0_takeNumber_176 rfl (bw_nb false) ⟨false, rfl, h⟩
              · replace h := h.2 (of_decide_eq_true c)
                refine bw_iconst (v := 1) dX0_takeNumber_171 (by decide) ?_
                refine bw_goto (tgt := 176) dX0_takeNumber_172 (by decide) ?_
                exact bw_ireturn dX0_takeNumber_176 rfl (bw_nb true) ⟨true, rfl, h⟩
            · replace h := h.2 (c)
              refine bw_iconst (v := 1) dX0_takeNumber_150 (by decide) ?_
              refine bw_goto (tgt := 155) dX0_takeNumber_151 (by decide) ?_
              refine bw_istore_n (i := 3) (L' := [some (.ref 3), some (.int l1), some (.int l2), some (.int 1)]) dX0_takeNumber_155 rfl (Nat.le_of_ble_eq_true rfl) rfl ?_
              refine bw_iload_n (i := 3) dX0_takeNumber_156 rfl rfl ?_
              refine bw_if_ne (tgt := 171) dX0_takeNumber_157 (by decide) (fun _ => ?_) (fun c => absurd c (by decide))
              refine bw_iconst (v := 1) dX0_takeNumber_171 (by decide) ?_
              refine bw_goto (tgt := 176) dX0_takeNumber_172 (by decide) ?_
              exact bw_ireturn dX0_takeNumber_176 rfl (bw_nb true) ⟨true, rfl, h⟩
      · replace h := h.2 (c)
        refine bw_aload_n (i := 0) dX0_takeNumber_65 rfl rfl ?_
        refine bw_geti fg_BentWords_Cursor_15 rfl dX0_takeNumber_66 ?_
        refine bw_aload_n (i := 0) dX0_takeNumber_69 rfl rfl ?_
        refine bw_geti fg_BentWords_Cursor_34 rfl dX0_takeNumber_70 ?_
        refine bw_isub dX0_takeNumber_73 ?_
        refine bw_iload_n (i := 1) dX0_takeNumber_74 rfl rfl ?_
        refine bw_icmp_ge (tgt := 105) dX0_takeNumber_75 (by decide) (fun c => ?_) (fun c => ?_)
        · replace h := h.1 (c)
          refine bw_aload_n (i := 0) dX0_takeNumber_105 rfl rfl ?_
          refine bw_dup dX0_takeNumber_106 rfl ?_
          refine bw_geti fg_BentWords_Cursor_15 rfl dX0_takeNumber_107 ?_
          refine bw_iconst (v := 1) dX0_takeNumber_110 (by decide) ?_
          refine bw_iadd dX0_takeNumber_111 ?_
          refine bw_puti fp_BentWords_Cursor_15 rfl rfl rfl dX0_takeNumber_112 ?_
          refine bw_goto (tgt := 17) dX0_takeNumber_115 (by decide) ?_
          exact h
        · replace h := h.2 (c)
          refine bw_aload_n (i := 0) dX0_takeNumber_78 rfl rfl ?_
          refine bw_aload_n (i := 0) dX0_takeNumber_79 rfl rfl ?_
          refine bw_geti fg_BentWords_Cursor_45 rfl dX0_takeNumber_80 ?_
          refine bw_bipush (v := 10) dX0_takeNumber_83 (by decide) ?_
          refine bw_imul dX0_takeNumber_85 ?_
          refine bw_aload_n (i := 0) dX0_takeNumber_86 rfl rfl ?_
          refine bw_getr (r := 1) fg_BentWords_Cursor_9 rfl rfl dX0_takeNumber_87 ?_
          refine bw_getr (r := 2) fg_BentWords_Cursor_27 rfl rfl dX0_takeNumber_90 ?_
          refine bw_aload_n (i := 0) dX0_takeNumber_93 rfl rfl ?_
          refine bw_geti fg_BentWords_Cursor_15 rfl dX0_takeNumber_94 ?_
          obtain ⟨hi3, h⟩ := h
          refine bw_caload rfl hi3 dX0_takeNumber_97 ?_
          refine bw_iadd dX0_takeNumber_98 ?_
          refine bw_bipush (v := 48) dX0_takeNumber_99 (by decide) ?_
          refine bw_isub dX0_takeNumber_101 ?_
          refine bw_puti fp_BentWords_Cursor_45 rfl rfl rfl dX0_takeNumber_102 ?_
          refine bw_aload_n (i := 0) dX0_takeNumber_105 rfl rfl ?_
          refine bw_dup dX0_takeNumber_106 rfl ?_
          refine bw_geti fg_BentWords_Cursor_15 rfl dX0_takeNumber_107 ?_
          rw [show gw_i (sw_i w 3 4 ((((gw_i w 3 4) * 10) + (gw_i w 2 ((gw_i w 3 1).toNatClampNeg))) - 48)) 3 1 = (gw_i w 3 1) from rfl]
          refine bw_iconst (v := 1) dX0_takeNumber_110 (by decide) ?_
          refine bw_iadd dX0_takeNumber_111 ?_
          refine bw_puti fp_BentWords_Cursor_15 rfl rfl rfl dX0_takeNumber_112 ?_
          refine bw_goto (tgt := 17) dX0_takeNumber_115 (by decide) ?_
          exact h
theorem wfX0_takeNumber {E : bw_E} {d : Nat} {w : bw_W} {Q : Bool → bw_W → Prop} {a0 : Int32} {a1 : Int32}  (h : (∃ Q1 : bw_W → Prop, bw_rv E (d + 0) mX0_skipBlanks [.ref 3] w Q1 ∧ ∀ w3, Q1 w3 →
bw_G E (d + 1) mX0_takeNumber 17 [some (.ref 3), some (.int a0), some (.int a1), none] [] (sw_i (sw_i w3 3 2 (gw_i w3 3 1)) 3 4 0) (bw_qb Q))) : bw_rb E (d + 1) mX0_takeNumber [.ref 3, .int a0, .int a1] w Q := by
  refine bw_enter rfl (Nat.le_of_ble_eq_true rfl) ?_
  refine bw_aload_n (i := 0) dX0_takeNumber_0 rfl rfl ?_
  obtain ⟨Q1, hr, h⟩ := h
  refine bw_cVv (As := []) (st := []) cv_BentWords_Cursor_31 rfl rfl hr rfl rfl (Nat.le_of_ble_eq_true rfl) dX0_takeNumber_1 (fun w3 hv => ?_)
  replace h := h w3 hv
  clear hr
  refine bw_aload_n (i := 0) dX0_takeNumber_4 rfl rfl ?_
  refine bw_aload_n (i := 0) dX0_takeNumber_5 rfl rfl ?_
  refine bw_geti fg_BentWords_Cursor_15 rfl dX0_takeNumber_6 ?_
  refine bw_puti fp_BentWords_Cursor_34 rfl rfl rfl dX0_takeNumber_9 ?_
  refine bw_aload_n (i := 0) dX0_takeNumber_12 rfl rfl ?_
  refine bw_iconst (v := 0) dX0_takeNumber_13 (by decide) ?_
  refine bw_puti fp_BentWords_Cursor_45 rfl rfl rfl dX0_takeNumber_14 ?_
  exact h
theorem wfX1_drawWord_4 {E : bw_E} {d : Nat} {w : bw_W} {Q : Int64 → bw_W → Prop} {l1 : Int64} {l3 : Int32}  (h : ((3 ≤ l3 → Q l1 w) ∧ (¬ (3 ≤ l3) → (∃ Q1 : Int32 → bw_W → Prop, bw_ri E (d + 0) mX1_next [.ref 48, .int 3] w Q1 ∧ ∀ v2 w3, Q1 v2 w3 →
bw_G E (d + 1) mX1_drawWord 4 [some (.ref 48), some (.long (l1 ||| (((97 + v2).toInt64) <<< ((8 * l3).toInt64 &&& 63)))), none, some (.int (l3 + 1))] [] w3 (bw_ql Q))))) : bw_G E (d + 1) mX1_drawWord 4 [some (.ref 48), some (.long l1), none, some (.int l3)] [] w (bw_ql Q) := by
  refine bw_iload_n (i := 3) dX1_drawWord_4 rfl rfl ?_
  refine bw_iconst (v := 3) dX1_drawWord_5 (by decide) ?_
  refine bw_icmp_ge (tgt := 32) dX1_drawWord_6 (by decide) (fun c => ?_) (fun c => ?_)
  · replace h := h.1 (c)
    refine bw_lload_n (i := 1) dX1_drawWord_32 rfl rfl ?_
    exact bw_lreturn dX1_drawWord_33 rfl ⟨_, rfl, h⟩
  · replace h := h.2 (c)
    refine bw_lload_n (i := 1) dX1_drawWord_9 rfl rfl ?_
    refine bw_bipush (v := 97) dX1_drawWord_10 (by decide) ?_
    refine bw_aload_n (i := 0) dX1_drawWord_12 rfl rfl ?_
    refine bw_iconst (v := 3) dX1_drawWord_13 (by decide) ?_
    obtain ⟨Q1, hr, h⟩ := h
    refine bw_cVi (As := [.int 3]) (st := [.int 97, .long l1]) cv_BentWords_Draws_19 rfl rfl hr rfl rfl (Nat.le_of_ble_eq_true rfl) dX1_drawWord_14 (fun v2 w3 hv => ?_)
    replace h := h v2 w3 hv
    clear hr
    refine bw_iadd dX1_drawWord_17 ?_
    refine bw_i2l dX1_drawWord_18 ?_
    refine bw_bipush (v := 8) dX1_drawWord_19 (by decide) ?_
    refine bw_iload_n (i := 3) dX1_drawWord_21 rfl rfl ?_
    refine bw_imul dX1_drawWord_22 ?_
    refine bw_lshl dX1_drawWord_23 ?_
    refine bw_lor dX1_drawWord_24 ?_
    refine bw_lstore_n (i := 1) (L' := [some (.ref 48), some (.long (l1 ||| (((97 + v2).toInt64) <<< ((8 * l3).toInt64 &&& 63)))), none, some (.int l3)]) dX1_drawWord_25 rfl (Nat.le_of_ble_eq_true rfl) rfl ?_
    refine bw_iinc (i := 3) (x := l3) (v := (l3 + 1)) (L' := [some (.ref 48), some (.long (l1 ||| (((97 + v2).toInt64) <<< ((8 * l3).toInt64 &&& 63)))), none, some (.int (l3 + 1))]) dX1_drawWord_26 rfl rfl (Nat.le_of_ble_eq_true rfl) rfl ?_
    refine bw_goto (tgt := 4) dX1_drawWord_29 (by decide) ?_
    exact h
theorem wfX1_drawWord {E : bw_E} {d : Nat} {w : bw_W} {Q : Int64 → bw_W → Prop}   (h : bw_G E (d + 1) mX1_drawWord 4 [some (.ref 48), some (.long 0), none, some (.int 0)] [] w (bw_ql Q)) : bw_rl E (d + 1) mX1_drawWord [.ref 48] w Q := by
  refine bw_enter rfl (Nat.le_of_ble_eq_true rfl) ?_
  refine bw_lconst (v := 0) dX1_drawWord_0 rfl ?_
  refine bw_lstore_n (i := 1) (L' := [some (.ref 48), some (.long 0), none, none]) dX1_drawWord_1 rfl (Nat.le_of_ble_eq_true rfl) rfl ?_
  refine bw_iconst (v := 0) dX1_drawWord_2 (by decide) ?_
  refine bw_istore_n (i := 3) (L' := [some (.ref 48), some (.long 0), none, some (.int 0)]) dX1_drawWord_3 rfl (Nat.le_of_ble_eq_true rfl) rfl ?_
  exact h
theorem wfX2_logged {E : bw_E} {d : Nat} {w : bw_W} {Q : Int32 → bw_W → Prop}   (h : Q (if 60 < (gw_i w 37 1) then 60 else (gw_i w 37 1)) w) : bw_ri E (d + 1) mX2_logged [.ref 37] w Q := by
  refine bw_enter rfl (Nat.le_of_ble_eq_true rfl) ?_
  refine bw_aload_n (i := 0) dX2_logged_0 rfl rfl ?_
  refine bw_geti fg_BentWords_History_22 rfl dX2_logged_1 ?_
  refine bw_bipush (v := 60) dX2_logged_4 (by decide) ?_
  refine bw_mmin cm_BentWords_History_29 (Nat.le_of_ble_eq_true rfl) dX2_logged_6 ?_
  exact bw_ireturn dX2_logged_9 rfl rfl ⟨_, rfl, h⟩
def vX2_logged (w : bw_W)  : Int32 := (if 60 < (gw_i w 37 1) then 60 else (gw_i w 37 1))
theorem fs_X2_logged {E : bw_E} {d : Nat} {w : bw_W} {Q : Int32 → bw_W → Prop}    (h : Q (vX2_logged w ) w) : bw_ri E (d + 1) mX2_logged [.ref 37] w Q := by
  refine wfX2_logged  ?_
  exact h
theorem wfX2_remember {E : bw_E} {d : Nat} {w : bw_W} {Q : bw_W → Prop} {a0 : Int32} {a1 : Int64}  (h : (vp_in ((gw_i w 37 1) - (gw_i w 37 1) / 40 * 40) 40) ∧
(vp_in ((gw_i w 37 1) - (gw_i w 37 1) / 40 * 40) 40) ∧
Q (sw_i (sw_l (sw_i w 39 (((gw_i w 37 1) - (gw_i w 37 1) / 40 * 40).toNatClampNeg) a0) 40 (((gw_i w 37 1) - (gw_i w 37 1) / 40 * 40).toNatClampNeg) a1) 37 4 (if 40 < ((gw_i w 37 4) + 1) then 40 else ((gw_i w 37 4) + 1)))) : bw_rv E (d + 1) mX2_remember [.ref 37, .int a0, .long a1] w Q := by
  refine bw_enter rfl (Nat.le_of_ble_eq_true rfl) ?_
  refine bw_aload_n (i := 0) dX2_remember_0 rfl rfl ?_
  refine bw_geti fg_BentWords_History_22 rfl dX2_remember_1 ?_
  refine bw_bipush (v := 40) dX2_remember_4 (by decide) ?_
  refine bw_irem dX2_remember_6 (by decide) ?_
  refine bw_istore (i := 4) (L' := [some (.ref 37), some (.int a0), some (.long a1), none, some (.int ((gw_i w 37 1) - (gw_i w 37 1) / 40 * 40))]) dX2_remember_7 (Nat.le_of_ble_eq_true rfl) rfl ?_
  refine bw_aload_n (i := 0) dX2_remember_9 rfl rfl ?_
  refine bw_getr (r := 39) fg_BentWords_History_15 rfl rfl dX2_remember_10 ?_
  refine bw_iload dX2_remember_13 rfl ?_
  refine bw_iload_n (i := 1) dX2_remember_15 rfl rfl ?_
  obtain ⟨hi1, h⟩ := h
  refine bw_iastore rfl hi1 dX2_remember_16 ?_
  refine bw_aload_n (i := 0) dX2_remember_17 rfl rfl ?_
  refine bw_getr (r := 40) fg_BentWords_History_18 rfl rfl dX2_remember_18 ?_
  refine bw_iload dX2_remember_21 rfl ?_
  refine bw_lload_n (i := 2) dX2_remember_23 rfl rfl ?_
  obtain ⟨hi2, h⟩ := h
  refine bw_lastore rfl hi2 dX2_remember_24 ?_
  refine bw_aload_n (i := 0) dX2_remember_25 rfl rfl ?_
  refine bw_aload_n (i := 0) dX2_remember_26 rfl rfl ?_
  refine bw_geti fg_BentWords_History_26 rfl dX2_remember_27 ?_
  rw [show gw_i (sw_l (sw_i w 39 (((gw_i w 37 1) - (gw_i w 37 1) / 40 * 40).toNatClampNeg) a0) 40 (((gw_i w 37 1) - (gw_i w 37 1) / 40 * 40).toNatClampNeg) a1) 37 4 = (gw_i w 37 4) from rfl]
  refine bw_iconst (v := 1) dX2_remember_30 (by decide) ?_
  refine bw_iadd dX2_remember_31 ?_
  refine bw_bipush (v := 40) dX2_remember_32 (by decide) ?_
  refine bw_mmin cm_BentWords_History_29 (Nat.le_of_ble_eq_true rfl) dX2_remember_34 ?_
  refine bw_puti fp_BentWords_History_26 rfl rfl rfl dX2_remember_37 ?_
  exact bw_return dX2_remember_40 rfl ⟨rfl, h⟩
theorem fs_X2_remember {E : bw_E} {d : Nat} {w : bw_W} {Q : bw_W → Prop} {a0 : Int32} {a1 : Int64}  (hc0 : (vp_in ((gw_i w 37 1) - (gw_i w 37 1) / 40 * 40) 40)) (hc1 : (vp_in ((gw_i w 37 1) - (gw_i w 37 1) / 40 * 40) 40)) (h : Q (sw_i (sw_l (sw_i w 39 (((gw_i w 37 1) - (gw_i w 37 1) / 40 * 40).toNatClampNeg) a0) 40 (((gw_i w 37 1) - (gw_i w 37 1) / 40 * 40).toNatClampNeg) a1) 37 4 (if 40 < ((gw_i w 37 4) + 1) then 40 else ((gw_i w 37 4) + 1)))) : bw_rv E (d + 1) mX2_remember [.ref 37, .int a0, .long a1] w Q := by
  refine wfX2_remember  ?_
  refine ⟨hc0 , ?_⟩
  refine ⟨hc1 , ?_⟩
  exact h
theorem wfX2_copyLogFrom_im {E : bw_E} {d : Nat} {w : bw_W} {Q : bw_W → Prop}   (h : Q (sw_i (sw_i (cw_i w 44 (fun j => if j < 100 then (gw_i w 38 j) else (gw_i w 44 j))) 43 1 (gw_i w 37 1)) 43 4 0)) : bw_rv E (d + 1) mX2_copyLogFrom [.ref 43, .ref 37] w Q := by
  refine bw_enter rfl (Nat.le_of_ble_eq_true rfl) ?_
  refine bw_aload_n (i := 1) dX2_copyLogFrom_0 rfl rfl ?_
  refine bw_getr (r := 38) fg_BentWords_History_11 rfl rfl dX2_copyLogFrom_1 ?_
  refine bw_iconst (v := 0) dX2_copyLogFrom_4 (by decide) ?_
  refine bw_aload_n (i := 0) dX2_copyLogFrom_5 rfl rfl ?_
  refine bw_getr (r := 44) fg_BentWords_History_11 rfl rfl dX2_copyLogFrom_6 ?_
  refine bw_iconst (v := 0) dX2_copyLogFrom_9 (by decide) ?_
  refine bw_aload_n (i := 0) dX2_copyLogFrom_10 rfl rfl ?_
  refine bw_getr (r := 44) fg_BentWords_History_11 rfl rfl dX2_copyLogFrom_11 ?_
  refine bw_aleni (v := 100) rfl (by decide) dX2_copyLogFrom_14 ?_
  refine bw_copyi (k := 100) (f := (fun j => if j < 100 then (gw_i w 38 j) else (gw_i w 44 j))) rfl cc_BentWords_History_40 rfl rfl (by decide) (by decide) (by decide) (by decide) (Nat.le_of_ble_eq_true rfl) dX2_copyLogFrom_15 ?_
  refine bw_aload_n (i := 0) dX2_copyLogFrom_18 rfl rfl ?_
  refine bw_aload_n (i := 1) dX2_copyLogFrom_19 rfl rfl ?_
  refine bw_geti fg_BentWords_History_22 rfl dX2_copyLogFrom_20 ?_
  rw [show gw_i (cw_i w 44 (fun j => if j < 100 then (gw_i w 38 j) else (gw_i w 44 j))) 37 1 = (gw_i w 37 1) from rfl]
  refine bw_puti fp_BentWords_History_22 rfl rfl rfl dX2_copyLogFrom_23 ?_
  refine bw_aload_n (i := 0) dX2_copyLogFrom_26 rfl rfl ?_
  refine bw_iconst (v := 0) dX2_copyLogFrom_27 (by decide) ?_
  refine bw_puti fp_BentWords_History_26 rfl rfl rfl dX2_copyLogFrom_28 ?_
  exact bw_return dX2_copyLogFrom_31 rfl ⟨rfl, h⟩
theorem wfX2_copyLogFrom_bk {E : bw_E} {d : Nat} {w : bw_W} {Q : bw_W → Prop}   (h : Q (sw_i (sw_i (cw_i w 38 (fun j => if j < 100 then (gw_i w 44 j) else (gw_i w 38 j))) 37 1 (gw_i w 43 1)) 37 4 0)) : bw_rv E (d + 1) mX2_copyLogFrom [.ref 37, .ref 43] w Q := by
  refine bw_enter rfl (Nat.le_of_ble_eq_true rfl) ?_
  refine bw_aload_n (i := 1) dX2_copyLogFrom_0 rfl rfl ?_
  refine bw_getr (r := 44) fg_BentWords_History_11 rfl rfl dX2_copyLogFrom_1 ?_
  refine bw_iconst (v := 0) dX2_copyLogFrom_4 (by decide) ?_
  refine bw_aload_n (i := 0) dX2_copyLogFrom_5 rfl rfl ?_
  refine bw_getr (r := 38) fg_BentWords_History_11 rfl rfl dX2_copyLogFrom_6 ?_
  refine bw_iconst (v := 0) dX2_copyLogFrom_9 (by decide) ?_
  refine bw_aload_n (i := 0) dX2_copyLogFrom_10 rfl rfl ?_
  refine bw_getr (r := 38) fg_BentWords_History_11 rfl rfl dX2_copyLogFrom_11 ?_
  refine bw_aleni (v := 100) rfl (by decide) dX2_copyLogFrom_14 ?_
  refine bw_copyi (k := 100) (f := (fun j => if j < 100 then (gw_i w 44 j) else (gw_i w 38 j))) rfl cc_BentWords_History_40 rfl rfl (by decide) (by decide) (by decide) (by decide) (Nat.le_of_ble_eq_true rfl) dX2_copyLogFrom_15 ?_
  refine bw_aload_n (i := 0) dX2_copyLogFrom_18 rfl rfl ?_
  refine bw_aload_n (i := 1) dX2_copyLogFrom_19 rfl rfl ?_
  refine bw_geti fg_BentWords_History_22 rfl dX2_copyLogFrom_20 ?_
  rw [show gw_i (cw_i w 38 (fun j => if j < 100 then (gw_i w 44 j) else (gw_i w 38 j))) 43 1 = (gw_i w 43 1) from rfl]
  refine bw_puti fp_BentWords_History_22 rfl rfl rfl dX2_copyLogFrom_23 ?_
  refine bw_aload_n (i := 0) dX2_copyLogFrom_26 rfl rfl ?_
  refine bw_iconst (v := 0) dX2_copyLogFrom_27 (by decide) ?_
  refine bw_puti fp_BentWords_History_26 rfl rfl rfl dX2_copyLogFrom_28 ?_
  exact bw_return dX2_copyLogFrom_31 rfl ⟨rfl, h⟩
theorem fs_X2_copyLogFrom_im {E : bw_E} {d : Nat} {w : bw_W} {Q : bw_W → Prop}    (h : Q (sw_i (sw_i (cw_i w 44 (fun j => if j < 100 then (gw_i w 38 j) else (gw_i w 44 j))) 43 1 (gw_i w 37 1)) 43 4 0)) : bw_rv E (d + 1) mX2_copyLogFrom [.ref 43, .ref 37] w Q := by
  refine wfX2_copyLogFrom_im  ?_
  exact h
theorem fs_X2_copyLogFrom_bk {E : bw_E} {d : Nat} {w : bw_W} {Q : bw_W → Prop}    (h : Q (sw_i (sw_i (cw_i w 38 (fun j => if j < 100 then (gw_i w 44 j) else (gw_i w 38 j))) 37 1 (gw_i w 43 1)) 37 4 0)) : bw_rv E (d + 1) mX2_copyLogFrom [.ref 37, .ref 43] w Q := by
  refine wfX2_copyLogFrom_bk  ?_
  exact h
theorem wfX3_clear {E : bw_E} {d : Nat} {w : bw_W} {Q : bw_W → Prop}   (h : (∃ Q1 : bw_W → Prop, bw_rv E (d + 0) mX3_clearRow [.ref 8] (sw_i (sw_i w 5 0 0) 5 6 0) Q1 ∧ ∀ w3, Q1 w3 →
(∃ Q4 : bw_W → Prop, bw_rv E (d + 0) mX3_clearRow [.ref 9] w3 Q4 ∧ ∀ w6, Q4 w6 →
(∃ Q7 : bw_W → Prop, bw_rv E (d + 0) mX3_clearRow [.ref 10] w6 Q7 ∧ ∀ w9, Q7 w9 →
Q w9)))) : bw_rv E (d + 1) mX3_clear [.ref 5] w Q := by
  refine bw_enter rfl (Nat.le_of_ble_eq_true rfl) ?_
  refine bw_aload_n (i := 0) dX3_clear_0 rfl rfl ?_
  refine bw_iconst (v := 0) dX3_clear_1 (by decide) ?_
  refine bw_puti fp_BentWords_Lexicon_47 rfl rfl rfl dX3_clear_2 ?_
  refine bw_aload_n (i := 0) dX3_clear_5 rfl rfl ?_
  refine bw_iconst (v := 0) dX3_clear_6 (by decide) ?_
  refine bw_puti fp_BentWords_Lexicon_51 rfl rfl rfl dX3_clear_7 ?_
  refine bw_aload_n (i := 0) dX3_clear_10 rfl rfl ?_
  refine bw_getr (r := 8) fg_BentWords_Lexicon_19 rfl rfl dX3_clear_11 ?_
  obtain ⟨Q1, hr, h⟩ := h
  refine bw_cSv (As := [.ref 8]) (st := []) cs_BentWords_Lexicon_54 hr rfl rfl (Nat.le_of_ble_eq_true rfl) dX3_clear_14 (fun w3 hv => ?_)
  replace h := h w3 hv
  clear hr
  refine bw_aload_n (i := 0) dX3_clear_17 rfl rfl ?_
  refine bw_getr (r := 9) fg_BentWords_Lexicon_22 rfl rfl dX3_clear_18 ?_
  obtain ⟨Q4, hr, h⟩ := h
  refine bw_cSv (As := [.ref 9]) (st := []) cs_BentWords_Lexicon_54 hr rfl rfl (Nat.le_of_ble_eq_true rfl) dX3_clear_21 (fun w6 hv => ?_)
  replace h := h w6 hv
  clear hr
  refine bw_aload_n (i := 0) dX3_clear_24 rfl rfl ?_
  refine bw_getr (r := 10) fg_BentWords_Lexicon_25 rfl rfl dX3_clear_25 ?_
  obtain ⟨Q7, hr, h⟩ := h
  refine bw_cSv (As := [.ref 10]) (st := []) cs_BentWords_Lexicon_54 hr rfl rfl (Nat.le_of_ble_eq_true rfl) dX3_clear_28 (fun w9 hv => ?_)
  replace h := h w9 hv
  clear hr
  exact bw_return dX3_clear_31 rfl ⟨rfl, h⟩
theorem wfX3_copyFrom {E : bw_E} {d : Nat} {w : bw_W} {Q : bw_W → Prop}   (h : (∀ i, i < 32 → fits .char (.int (gw_i (cw_i (cw_l (cw_l (cw_l (cw_l (cw_i (cw_l (sw_i (sw_i w 18 0 (gw_i w 5 0)) 18 6 (gw_i w 5 6)) 19 (fun j => if j < 6 then (gw_l w 6 j) else (gw_l w 19 j))) 20 (fun j => if j < 6 then (gw_i w 7 j) else (gw_i w 20 j))) 21 (fun j => if j < 48 then (gw_l w 8 j) else (gw_l w 21 j))) 22 (fun j => if j < 24 then (gw_l w 9 j) else (gw_l w 22 j))) 23 (fun j => if j < 24 then (gw_l w 10 j) else (gw_l w 23 j))) 24 (fun j => if j < 4 then (gw_l w 11 j) else (gw_l w 24 j))) 25 (fun j => if j < 4 then (gw_i w 12 j) else (gw_i w 25 j))) 13 i)) = true) ∧
Q (cw_l (cw_i (cw_i (cw_i (cw_i (cw_l (cw_l (cw_l (cw_l (cw_i (cw_l (sw_i (sw_i w 18 0 (gw_i w 5 0)) 18 6 (gw_i w 5 6)) 19 (fun j => if j < 6 then (gw_l w 6 j) else (gw_l w 19 j))) 20 (fun j => if j < 6 then (gw_i w 7 j) else (gw_i w 20 j))) 21 (fun j => if j < 48 then (gw_l w 8 j) else (gw_l w 21 j))) 22 (fun j => if j < 24 then (gw_l w 9 j) else (gw_l w 22 j))) 23 (fun j => if j < 24 then (gw_l w 10 j) else (gw_l w 23 j))) 24 (fun j => if j < 4 then (gw_l w 11 j) else (gw_l w 24 j))) 25 (fun j => if j < 4 then (gw_i w 12 j) else (gw_i w 25 j))) 26 (fun j => if j < 32 then (gw_i w 13 j) else (gw_i w 26 j))) 27 (fun j => if j < 32 then (gw_i w 14 j) else (gw_i w 27 j))) 28 (fun j => if j < 32 then (gw_i w 15 j) else (gw_i w 28 j))) 29 (fun j => if j < 32 then (gw_l w 16 j) else (gw_l w 29 j)))) : bw_rv E (d + 1) mX3_copyFrom [.ref 18, .ref 5] w Q := by
  refine bw_enter rfl (Nat.le_of_ble_eq_true rfl) ?_
  refine bw_aload_n (i := 0) dX3_copyFrom_0 rfl rfl ?_
  refine bw_aload_n (i := 1) dX3_copyFrom_1 rfl rfl ?_
  refine bw_geti fg_BentWords_Lexicon_47 rfl dX3_copyFrom_2 ?_
  refine bw_puti fp_BentWords_Lexicon_47 rfl rfl rfl dX3_copyFrom_5 ?_
  refine bw_aload_n (i := 0) dX3_copyFrom_8 rfl rfl ?_
  refine bw_aload_n (i := 1) dX3_copyFrom_9 rfl rfl ?_
  refine bw_geti fg_BentWords_Lexicon_51 rfl dX3_copyFrom_10 ?_
  rw [show gw_i (sw_i w 18 0 (gw_i w 5 0)) 5 6 = (gw_i w 5 6) from rfl]
  refine bw_puti fp_BentWords_Lexicon_51 rfl rfl rfl dX3_copyFrom_13 ?_
  refine bw_aload_n (i := 1) dX3_copyFrom_16 rfl rfl ?_
  refine bw_getr (r := 6) fg_BentWords_Lexicon_9 rfl rfl dX3_copyFrom_17 ?_
  refine bw_iconst (v := 0) dX3_copyFrom_20 (by decide) ?_
  refine bw_aload_n (i := 0) dX3_copyFrom_21 rfl rfl ?_
  refine bw_getr (r := 19) fg_BentWords_Lexicon_9 rfl rfl dX3_copyFrom_22 ?_
  refine bw_iconst (v := 0) dX3_copyFrom_25 (by decide) ?_
  refine bw_aload_n (i := 0) dX3_copyFrom_26 rfl rfl ?_
  refine bw_getr (r := 19) fg_BentWords_Lexicon_9 rfl rfl dX3_copyFrom_27 ?_
  refine bw_alenl (v := 6) rfl (by decide) dX3_copyFrom_30 ?_
  refine bw_copyl (k := 6) (f := (fun j => if j < 6 then (gw_l w 6 j) else (gw_l w 19 j))) rfl cc_BentWords_Lexicon_58 rfl rfl (by decide) (by decide) (by decide) (by decide) (Nat.le_of_ble_eq_true rfl) dX3_copyFrom_31 ?_
  refine bw_aload_n (i := 1) dX3_copyFrom_34 rfl rfl ?_
  refine bw_getr (r := 7) fg_BentWords_Lexicon_15 rfl rfl dX3_copyFrom_35 ?_
  refine bw_iconst (v := 0) dX3_copyFrom_38 (by decide) ?_
  refine bw_aload_n (i := 0) dX3_copyFrom_39 rfl rfl ?_
  refine bw_getr (r := 20) fg_BentWords_Lexicon_15 rfl rfl dX3_copyFrom_40 ?_
  refine bw_iconst (v := 0) dX3_copyFrom_43 (by decide) ?_
  refine bw_aload_n (i := 0) dX3_copyFrom_44 rfl rfl ?_
  refine bw_getr (r := 20) fg_BentWords_Lexicon_15 rfl rfl dX3_copyFrom_45 ?_
  refine bw_aleni (v := 6) rfl (by decide) dX3_copyFrom_48 ?_
  refine bw_copyi (k := 6) (f := (fun j => if j < 6 then (gw_i w 7 j) else (gw_i w 20 j))) rfl cc_BentWords_Lexicon_58 rfl rfl (by decide) (by decide) (by decide) (by decide) (Nat.le_of_ble_eq_true rfl) dX3_copyFrom_49 ?_
  refine bw_aload_n (i := 1) dX3_copyFrom_52 rfl rfl ?_
  refine bw_getr (r := 8) fg_BentWords_Lexicon_19 rfl rfl dX3_copyFrom_53 ?_
  refine bw_iconst (v := 0) dX3_copyFrom_56 (by decide) ?_
  refine bw_aload_n (i := 0) dX3_copyFrom_57 rfl rfl ?_
  refine bw_getr (r := 21) fg_BentWords_Lexicon_19 rfl rfl dX3_copyFrom_58 ?_
  refine bw_iconst (v := 0) dX3_copyFrom_61 (by decide) ?_
  refine bw_aload_n (i := 0) dX3_copyFrom_62 rfl rfl ?_
  refine bw_getr (r := 21) fg_BentWords_Lexicon_19 rfl rfl dX3_copyFrom_63 ?_
  refine bw_alenl (v := 48) rfl (by decide) dX3_copyFrom_66 ?_
  refine bw_copyl (k := 48) (f := (fun j => if j < 48 then (gw_l w 8 j) else (gw_l w 21 j))) rfl cc_BentWords_Lexicon_58 rfl rfl (by decide) (by decide) (by decide) (by decide) (Nat.le_of_ble_eq_true rfl) dX3_copyFrom_67 ?_
  refine bw_aload_n (i := 1) dX3_copyFrom_70 rfl rfl ?_
  refine bw_getr (r := 9) fg_BentWords_Lexicon_22 rfl rfl dX3_copyFrom_71 ?_
  refine bw_iconst (v := 0) dX3_copyFrom_74 (by decide) ?_
  refine bw_aload_n (i := 0) dX3_copyFrom_75 rfl rfl ?_
  refine bw_getr (r := 22) fg_BentWords_Lexicon_22 rfl rfl dX3_copyFrom_76 ?_
  refine bw_iconst (v := 0) dX3_copyFrom_79 (by decide) ?_
  refine bw_aload_n (i := 0) dX3_copyFrom_80 rfl rfl ?_
  refine bw_getr (r := 22) fg_BentWords_Lexicon_22 rfl rfl dX3_copyFrom_81 ?_
  refine bw_alenl (v := 24) rfl (by decide) dX3_copyFrom_84 ?_
  refine bw_copyl (k := 24) (f := (fun j => if j < 24 then (gw_l w 9 j) else (gw_l w 22 j))) rfl cc_BentWords_Lexicon_58 rfl rfl (by decide) (by decide) (by decide) (by decide) (Nat.le_of_ble_eq_true rfl) dX3_copyFrom_85 ?_
  refine bw_aload_n (i := 1) dX3_copyFrom_88 rfl rfl ?_
  refine bw_getr (r := 10) fg_BentWords_Lexicon_25 rfl rfl dX3_copyFrom_89 ?_
  refine bw_iconst (v := 0) dX3_copyFrom_92 (by decide) ?_
  refine bw_aload_n (i := 0) dX3_copyFrom_93 rfl rfl ?_
  refine bw_getr (r := 23) fg_BentWords_Lexicon_25 rfl rfl dX3_copyFrom_94 ?_
  refine bw_iconst (v := 0) dX3_copyFrom_97 (by decide) ?_
  refine bw_aload_n (i := 0) dX3_copyFrom_98 rfl rfl ?_
  refine bw_getr (r := 23) fg_BentWords_Lexicon_25 rfl rfl dX3_copyFrom_99 ?_
  refine bw_alenl (v := 24) rfl (by decide) dX3_copyFrom_102 ?_
  refine bw_copyl (k := 24) (f := (fun j => if j < 24 then (gw_l w 10 j) else (gw_l w 23 j))) rfl cc_BentWords_Lexicon_58 rfl rfl (by decide) (by decide) (by decide) (by decide) (Nat.le_of_ble_eq_true rfl) dX3_copyFrom_103 ?_
  refine bw_aload_n (i := 1) dX3_copyFrom_106 rfl rfl ?_
  refine bw_getr (r := 11) fg_BentWords_Lexicon_28 rfl rfl dX3_copyFrom_107 ?_
  refine bw_iconst (v := 0) dX3_copyFrom_110 (by decide) ?_
  refine bw_aload_n (i := 0) dX3_copyFrom_111 rfl rfl ?_
  refine bw_getr (r := 24) fg_BentWords_Lexicon_28 rfl rfl dX3_copyFrom_112 ?_
  refine bw_iconst (v := 0) dX3_copyFrom_115 (by decide) ?_
  refine bw_aload_n (i := 0) dX3_copyFrom_116 rfl rfl ?_
  refine bw_getr (r := 24) fg_BentWords_Lexicon_28 rfl rfl dX3_copyFrom_117 ?_
  refine bw_alenl (v := 4) rfl (by decide) dX3_copyFrom_120 ?_
  refine bw_copyl (k := 4) (f := (fun j => if j < 4 then (gw_l w 11 j) else (gw_l w 24 j))) rfl cc_BentWords_Lexicon_58 rfl rfl (by decide) (by decide) (by decide) (by decide) (Nat.le_of_ble_eq_true rfl) dX3_copyFrom_121 ?_
  refine bw_aload_n (i := 1) dX3_copyFrom_124 rfl rfl ?_
  refine bw_getr (r := 12) fg_BentWords_Lexicon_31 rfl rfl dX3_copyFrom_125 ?_
  refine bw_iconst (v := 0) dX3_copyFrom_128 (by decide) ?_
  refine bw_aload_n (i := 0) dX3_copyFrom_129 rfl rfl ?_
  refine bw_getr (r := 25) fg_BentWords_Lexicon_31 rfl rfl dX3_copyFrom_130 ?_
  refine bw_iconst (v := 0) dX3_copyFrom_133 (by decide) ?_
  refine bw_aload_n (i := 0) dX3_copyFrom_134 rfl rfl ?_
  refine bw_getr (r := 25) fg_BentWords_Lexicon_31 rfl rfl dX3_copyFrom_135 ?_
  refine bw_aleni (v := 4) rfl (by decide) dX3_copyFrom_138 ?_
  refine bw_copyi (k := 4) (f := (fun j => if j < 4 then (gw_i w 12 j) else (gw_i w 25 j))) rfl cc_BentWords_Lexicon_58 rfl rfl (by decide) (by decide) (by decide) (by decide) (Nat.le_of_ble_eq_true rfl) dX3_copyFrom_139 ?_
  refine bw_aload_n (i := 1) dX3_copyFrom_142 rfl rfl ?_
  refine bw_getr (r := 13) fg_BentWords_Lexicon_34 rfl rfl dX3_copyFrom_143 ?_
  refine bw_iconst (v := 0) dX3_copyFrom_146 (by decide) ?_
  refine bw_aload_n (i := 0) dX3_copyFrom_147 rfl rfl ?_
  refine bw_getr (r := 26) fg_BentWords_Lexicon_34 rfl rfl dX3_copyFrom_148 ?_
  refine bw_iconst (v := 0) dX3_copyFrom_151 (by decide) ?_
  refine bw_aload_n (i := 0) dX3_copyFrom_152 rfl rfl ?_
  refine bw_getr (r := 26) fg_BentWords_Lexicon_34 rfl rfl dX3_copyFrom_153 ?_
  refine bw_alenc (v := 32) rfl (by decide) dX3_copyFrom_156 ?_
  obtain ⟨hf1, h⟩ := h
  refine bw_copyc (k := 32) (f := (fun j => if j < 32 then (gw_i w 13 j) else (gw_i w 26 j))) rfl cc_BentWords_Lexicon_58 rfl rfl (by decide) (by decide) (by decide) (by decide) hf1 (Nat.le_of_ble_eq_true rfl) dX3_copyFrom_157 ?_
  refine bw_aload_n (i := 1) dX3_copyFrom_160 rfl rfl ?_
  refine bw_getr (r := 14) fg_BentWords_Lexicon_38 rfl rfl dX3_copyFrom_161 ?_
  refine bw_iconst (v := 0) dX3_copyFrom_164 (by decide) ?_
  refine bw_aload_n (i := 0) dX3_copyFrom_165 rfl rfl ?_
  refine bw_getr (r := 27) fg_BentWords_Lexicon_38 rfl rfl dX3_copyFrom_166 ?_
  refine bw_iconst (v := 0) dX3_copyFrom_169 (by decide) ?_
  refine bw_aload_n (i := 0) dX3_copyFrom_170 rfl rfl ?_
  refine bw_getr (r := 27) fg_BentWords_Lexicon_38 rfl rfl dX3_copyFrom_171 ?_
  refine bw_aleni (v := 32) rfl (by decide) dX3_copyFrom_174 ?_
  refine bw_copyi (k := 32) (f := (fun j => if j < 32 then (gw_i w 14 j) else (gw_i w 27 j))) rfl cc_BentWords_Lexicon_58 rfl rfl (by decide) (by decide) (by decide) (by decide) (Nat.le_of_ble_eq_true rfl) dX3_copyFrom_175 ?_
  refine bw_aload_n (i := 1) dX3_copyFrom_178 rfl rfl ?_
  refine bw_getr (r := 15) fg_BentWords_Lexicon_41 rfl rfl dX3_copyFrom_179 ?_
  refine bw_iconst (v := 0) dX3_copyFrom_182 (by decide) ?_
  refine bw_aload_n (i := 0) dX3_copyFrom_183 rfl rfl ?_
  refine bw_getr (r := 28) fg_BentWords_Lexicon_41 rfl rfl dX3_copyFrom_184 ?_
  refine bw_iconst (v := 0) dX3_copyFrom_187 (by decide) ?_
  refine bw_aload_n (i := 0) dX3_copyFrom_188 rfl rfl ?_
  refine bw_getr (r := 28) fg_BentWords_Lexicon_41 rfl rfl dX3_copyFrom_189 ?_
  refine bw_aleni (v := 32) rfl (by decide) dX3_copyFrom_192 ?_
  refine bw_copyi (k := 32) (f := (fun j => if j < 32 then (gw_i w 15 j) else (gw_i w 28 j))) rfl cc_BentWords_Lexicon_58 rfl rfl (by decide) (by decide) (by decide) (by decide) (Nat.le_of_ble_eq_true rfl) dX3_copyFrom_193 ?_
  refine bw_aload_n (i := 1) dX3_copyFrom_196 rfl rfl ?_
  refine bw_getr (r := 16) fg_BentWords_Lexicon_44 rfl rfl dX3_copyFrom_197 ?_
  refine bw_iconst (v := 0) dX3_copyFrom_200 (by decide) ?_
  refine bw_aload_n (i := 0) dX3_copyFrom_201 rfl rfl ?_
  refine bw_getr (r := 29) fg_BentWords_Lexicon_44 rfl rfl dX3_copyFrom_202 ?_
  refine bw_iconst (v := 0) dX3_copyFrom_205 (by decide) ?_
  refine bw_aload_n (i := 0) dX3_copyFrom_206 rfl rfl ?_
  refine bw_getr (r := 29) fg_BentWords_Lexicon_44 rfl rfl dX3_copyFrom_207 ?_
  refine bw_alenl (v := 32) rfl (by decide) dX3_copyFrom_210 ?_
  refine bw_copyl (k := 32) (f := (fun j => if j < 32 then (gw_l w 16 j) else (gw_l w 29 j))) rfl cc_BentWords_Lexicon_58 rfl rfl (by decide) (by decide) (by decide) (by decide) (Nat.le_of_ble_eq_true rfl) dX3_copyFrom_211 ?_
  exact bw_return dX3_copyFrom_214 rfl ⟨rfl, h⟩
theorem wfX3_boundWord {E : bw_E} {d : Nat} {w : bw_W} {Q : Int64 → bw_W → Prop} {ta : Nat} {a1 : Int32} {a2 : Int32} {a3 : Int32} (h_ta : bw_sh ta = (2, 24, 0)) (h : (vp_in ((((a1 * 2) + a2) * 3) + a3) 24) ∧
(((gw_l w ta (((((a1 * 2) + a2) * 3) + a3).toNatClampNeg)) = 0 → (vp_in ((((a1 * 2) + a2) * 3) + 0) 24) ∧
Q (gw_l w ta (((((a1 * 2) + a2) * 3) + 0).toNatClampNeg)) w) ∧ (¬ (gw_l w ta (((((a1 * 2) + a2) * 3) + a3).toNatClampNeg)) = 0 → Q (gw_l w ta (((((a1 * 2) + a2) * 3) + a3).toNatClampNeg)) w))) : bw_rl E (d + 1) mX3_boundWord [.ref ta, .int a1, .int a2, .int a3] w Q := by
  refine bw_enter rfl (Nat.le_of_ble_eq_true rfl) ?_
  refine bw_aload_n (i := 0) dX3_boundWord_0 rfl rfl ?_
  refine bw_iload_n (i := 1) dX3_boundWord_1 rfl rfl ?_
  refine bw_iload_n (i := 2) dX3_boundWord_2 rfl rfl ?_
  refine bw_iload_n (i := 3) dX3_boundWord_3 rfl rfl ?_
  refine bw_cSi (As := [.int a1, .int a2, .int a3]) (st := [.ref ta]) (Q' := (fun v w1 => ((((a1 * 2) + a2) * 3) + a3) = v ∧ w = w1)) cs_BentWords_Lexicon_64 (fs_X3_boundSlot (d := d + 0) (a0 := a1) (a1 := a2) (a2 := a3)  ⟨rfl, rfl⟩) rfl rfl (Nat.le_of_ble_eq_true rfl) dX3_boundWord_4 (fun v w1 hv => ?_)
  obtain ⟨rfl, rfl⟩ := hv
  obtain ⟨hi1, h⟩ := h
  refine bw_laload h_ta hi1 dX3_boundWord_7 ?_
  refine bw_lstore (i := 4) (L' := [some (.ref ta), some (.int a1), some (.int a2), some (.int a3), some (.long (gw_l w ta (((((a1 * 2) + a2) * 3) + a3).toNatClampNeg))), none]) dX3_boundWord_8 (Nat.le_of_ble_eq_true rfl) rfl ?_
  refine bw_lload dX3_boundWord_10 rfl ?_
  refine bw_lconst (v := 0) dX3_boundWord_12 rfl ?_
  refine bw_lcmp_eq (tgt := 22) dX3_boundWord_13 dX3_boundWord_14 (by decide) (fun c => ?_) (fun c => ?_)
  · replace h := h.1 (c)
    refine bw_aload_n (i := 0) dX3_boundWord_22 rfl rfl ?_
    refine bw_iload_n (i := 1) dX3_boundWord_23 rfl rfl ?_
    refine bw_iload_n (i := 2) dX3_boundWord_24 rfl rfl ?_
    refine bw_iconst (v := 0) dX3_boundWord_25 (by decide) ?_
    refine bw_cSi (As := [.int a1, .int a2, .int 0]) (st := [.ref ta]) (Q' := (fun v w1 => ((((a1 * 2) + a2) * 3) + 0) = v ∧ w = w1)) cs_BentWords_Lexicon_64 (fs_X3_boundSlot (d := d + 0) (a0 := a1) (a1 := a2) (a2 := 0)  ⟨rfl, rfl⟩) rfl rfl (Nat.le_of_ble_eq_true rfl) dX3_boundWord_26 (fun v w1 hv => ?_)
    obtain ⟨rfl, rfl⟩ := hv
    obtain ⟨hi2, h⟩ := h
    refine bw_laload h_ta hi2 dX3_boundWord_29 ?_
    exact bw_lreturn dX3_boundWord_30 rfl ⟨_, rfl, h⟩
  · replace h := h.2 (c)
    refine bw_lload dX3_boundWord_17 rfl ?_
    refine bw_goto (tgt := 30) dX3_boundWord_19 (by decide) ?_
    exact bw_lreturn dX3_boundWord_30 rfl ⟨_, rfl, h⟩
def vX3_boundWord (w : bw_W) (ta : Nat) (a1 : Int32) (a2 : Int32) (a3 : Int32) : Int64 := (if (gw_l w ta (((((a1 * 2) + a2) * 3) + a3).toNatClampNeg)) = 0 then (gw_l w ta (((((a1 * 2) + a2) * 3) + 0).toNatClampNeg)) else (gw_l w ta (((((a1 * 2) + a2) * 3) + a3).toNatClampNeg)))
theorem fs_X3_boundWord {E : bw_E} {d : Nat} {w : bw_W} {Q : Int64 → bw_W → Prop} {ta : Nat} {a1 : Int32} {a2 : Int32} {a3 : Int32} (h_ta : bw_sh ta = (2, 24, 0)) (hc0 : (vp_in ((((a1 * 2) + a2) * 3) + a3) 24)) (hc1 : ((gw_l w ta (((((a1 * 2) + a2) * 3) + a3).toNatClampNeg)) = 0) → (vp_in ((((a1 * 2) + a2) * 3) + 0) 24)) (h : Q (vX3_boundWord w ta a1 a2 a3) w) : bw_rl E (d + 1) mX3_boundWord [.ref ta, .int a1, .int a2, .int a3] w Q := by
  refine wfX3_boundWord h_ta ?_
  refine ⟨hc0 , ?_⟩
  refine ⟨fun c0 => ?_, fun c0 => ?_⟩
  · refine ⟨hc1 c0, ?_⟩
    (try simp only [vX3_boundWord, c0, if_true, if_false, ite_true, ite_false, decide_true, decide_false, true_and, and_true, false_and, and_false, not_true_eq_false, not_false_eq_true, true_or, or_true, false_or, or_false, or_self, and_self, Classical.not_not] at h) <;> exact h
  · (try simp only [vX3_boundWord, c0, if_true, if_false, ite_true, ite_false, decide_true, decide_false, true_and, and_true, false_and, and_false, not_true_eq_false, not_false_eq_true, true_or, or_true, false_or, or_false, or_self, and_self, Classical.not_not] at h) <;> exact h
theorem wfX3_casesAskedBy_12 {E : bw_E} {d : Nat} {w : bw_W} {Q : Int32 → bw_W → Prop} {l1 : Int32} {l2 : Int32} {l3 : Int32} {l4 : Int32} {l5 : Int32}  (h : (vp_in l1 4) ∧
(((l4 + (gw_i w 25 (l1.toNatClampNeg))) ≤ l5 → Q l3 w) ∧ (¬ ((l4 + (gw_i w 25 (l1.toNatClampNeg))) ≤ l5) → (((vp_in l5 32))) ∧
(((¬ ((gw_i w 26 (l5.toNatClampNeg)) = 35)) → (vp_in l5 32))) ∧
((¬ (((gw_i w 26 (l5.toNatClampNeg)) = 35) ∨ ((gw_i w 26 (l5.toNatClampNeg)) = 64)) → bw_G E (d + 1) mX3_casesAskedBy 12 [some (.ref 18), some (.int l1), some (.int l2), some (.int l3), some (.int l4), some (.int (l5 + 1))] [] w (bw_qi Q)) ∧ (((gw_i w 26 (l5.toNatClampNeg)) = 35) ∨ ((gw_i w 26 (l5.toNatClampNeg)) = 64) → (vp_in l5 32) ∧
((((l2 >>> ((gw_i w 27 (l5.toNatClampNeg)) &&& 31)) &&& 1) = 0 → bw_G E (d + 1) mX3_casesAskedBy 12 [some (.ref 18), some (.int l1), some (.int l2), some (.int l3), some (.int l4), some (.int (l5 + 1))] [] w (bw_qi Q)) ∧ (¬ (((l2 >>> ((gw_i w 27 (l5.toNatClampNeg)) &&& 31)) &&& 1) = 0) → (vp_in l5 32) ∧
bw_G E (d + 1) mX3_casesAskedBy 12 [some (.ref 18), some (.int l1), some (.int l2), some (.int (l3 ||| ((1 : Int32) <<< ((gw_i w 28 (l5.toNatClampNeg)) &&& 31)))), some (.int l4), some (.int (l5 + 1))] [] w (bw_qi Q)))))))) : bw_G E (d + 1) mX3_casesAskedBy 12 [some (.ref 18), some (.int l1), some (.int l2), some (.int l3), some (.int l4), some (.int l5)] [] w (bw_qi Q) := by
  refine bw_iload dX3_casesAskedBy_12 rfl ?_
  refine bw_iload dX3_casesAskedBy_14 rfl ?_
  refine bw_aload_n (i := 0) dX3_casesAskedBy_16 rfl rfl ?_
  refine bw_getr (r := 25) fg_BentWords_Lexicon_31 rfl rfl dX3_casesAskedBy_17 ?_
  refine bw_iload_n (i := 1) dX3_casesAskedBy_20 rfl rfl ?_
  obtain ⟨hi1, h⟩ := h
  refine bw_iaload rfl hi1 dX3_casesAskedBy_21 ?_
  refine bw_iadd dX3_casesAskedBy_22 ?_
  refine bw_icmp_ge (tgt := 67) dX3_casesAskedBy_23 (by decide) (fun c => ?_) (fun c => ?_)
  · replace h := h.1 (c)
    refine bw_iload_n (i := 3) dX3_casesAskedBy_67 rfl rfl ?_
    exact bw_ireturn dX3_casesAskedBy_68 rfl rfl ⟨_, rfl, h⟩
  · replace h := h.2 (c)
    refine bw_aload_n (i := 0) dX3_casesAskedBy_26 rfl rfl ?_
    refine bw_iload dX3_casesAskedBy_27 rfl ?_
    obtain ⟨hc2, h⟩ := h
    obtain ⟨hc3, h⟩ := h
    refine bw_cVb (As := [.int l5]) (st := []) (Q' := (fun v w1 => (decide (((gw_i w 26 (l5.toNatClampNeg)) = 35) ∨ ((gw_i w 26 (l5.toNatClampNeg)) = 64))) = v ∧ w = w1)) cv_BentWords_Lexicon_68 rfl rfl (fs_X3_asksForm (d := d + 0) (a0 := l5) hc2 hc3 ⟨rfl, rfl⟩) rfl rfl (Nat.le_of_ble_eq_true rfl) dX3_casesAskedBy_29 (fun v w1 hv => ?_)
    obtain ⟨rfl, rfl⟩ := hv
    refine bw_ifb_eq (tgt := 61) dX3_casesAskedBy_32 (by decide) (fun c => ?_) (fun c => ?_)
    · replace h := h.1 (of_decide_eq_false c)
      refine bw_iinc (i := 5) (x := l5) (v := (l5 + 1)) (L' := [some (.ref 18), some (.int l1), some (.int l2), some (.int l3), some (.int l4), some (.int (l5 + 1))]) dX3_casesAskedBy_61 rfl rfl (Nat.le_of_ble_eq_true rfl) rfl ?_
      refine bw_goto (tgt := 12) dX3_casesAskedBy_64 (by decide) ?_
      exact h
    · replace h := h.2 (of_decide_eq_true c)
      refine bw_iload_n (i := 2) dX3_casesAskedBy_35 rfl rfl ?_
      refine bw_aload_n (i := 0) dX3_casesAskedBy_36 rfl rfl ?_
      refine bw_getr (r := 27) fg_BentWords_Lexicon_38 rfl rfl dX3_casesAskedBy_37 ?_
      refine bw_iload dX3_casesAskedBy_40 rfl ?_
      obtain ⟨hi4, h⟩ := h
      refine bw_iaload rfl hi4 dX3_casesAskedBy_42 ?_
      refine bw_ishr dX3_casesAskedBy_43 ?_
      refine bw_iconst (v := 1) dX3_casesAskedBy_44 (by decide) ?_
      refine bw_iand dX3_casesAskedBy_45 ?_
      refine bw_if_eq (tgt := 61) dX3_casesAskedBy_46 (by decide) (fun c => ?_) (fun c => ?_)
      · replace h := h.1 (c)
        refine bw_iinc (i := 5) (x := l5) (v := (l5 + 1)) (L' := [some (.ref 18), some (.int l1), some (.int l2), some (.int l3), some (.int l4), some (.int (l5 + 1))]) dX3_casesAskedBy_61 rfl rfl (Nat.le_of_ble_eq_true rfl) rfl ?_
        refine bw_goto (tgt := 12) dX3_casesAskedBy_64 (by decide) ?_
        exact h
      · replace h := h.2 (c)
        refine bw_iload_n (i := 3) dX3_casesAskedBy_49 rfl rfl ?_
        refine bw_iconst (v := 1) dX3_casesAskedBy_50 (by decide) ?_
        refine bw_aload_n (i := 0) dX3_casesAskedBy_51 rfl rfl ?_
        refine bw_getr (r := 28) fg_BentWords_Lexicon_41 rfl rfl dX3_casesAskedBy_52 ?_
        refine bw_iload dX3_casesAskedBy_55 rfl ?_
        obtain ⟨hi5, h⟩ := h
        refine bw_iaload rfl hi5 dX3_casesAskedBy_57 ?_
        refine bw_ishl dX3_casesAskedBy_58 ?_
        refine bw_ior dX3_casesAskedBy_59 ?_
        refine bw_istore_n (i := 3) (L' := [some (.ref 18), some (.int l1), some (.int l2), some (.int (l3 ||| ((1 : Int32) <<< ((gw_i w 28 (l5.toNatClampNeg)) &&& 31)))), some (.int l4), some (.int l5)]) dX3_casesAskedBy_60 rfl (Nat.le_of_ble_eq_true rfl) rfl ?_
        refine bw_iinc (i := 5) (x := l5) (v := (l5 + 1)) (L' := [some (.ref 18), some (.int l1), some (.int l2), some (.int (l3 ||| ((1 : Int32) <<< ((gw_i w 28 (l5.toNatClampNeg)) &&& 31)))), some (.int l4), some (.int (l5 + 1))]) dX3_casesAskedBy_61 rfl rfl (Nat.le_of_ble_eq_true rfl) rfl ?_
        refine bw_goto (tgt := 12) dX3_casesAskedBy_64 (by decide) ?_
        exact h
theorem wfX3_casesAskedBy {E : bw_E} {d : Nat} {w : bw_W} {Q : Int32 → bw_W → Prop} {a0 : Int32} {a1 : Int32}  (h : bw_G E (d + 1) mX3_casesAskedBy 12 [some (.ref 18), some (.int a0), some (.int a1), some (.int 0), some (.int (a0 * 8)), some (.int (a0 * 8))] [] w (bw_qi Q)) : bw_ri E (d + 1) mX3_casesAskedBy [.ref 18, .int a0, .int a1] w Q := by
  refine bw_enter rfl (Nat.le_of_ble_eq_true rfl) ?_
  refine bw_iconst (v := 0) dX3_casesAskedBy_0 (by decide) ?_
  refine bw_istore_n (i := 3) (L' := [some (.ref 18), some (.int a0), some (.int a1), some (.int 0), none, none]) dX3_casesAskedBy_1 rfl (Nat.le_of_ble_eq_true rfl) rfl ?_
  refine bw_iload_n (i := 1) dX3_casesAskedBy_2 rfl rfl ?_
  refine bw_bipush (v := 8) dX3_casesAskedBy_3 (by decide) ?_
  refine bw_imul dX3_casesAskedBy_5 ?_
  refine bw_istore (i := 4) (L' := [some (.ref 18), some (.int a0), some (.int a1), some (.int 0), some (.int (a0 * 8)), none]) dX3_casesAskedBy_6 (Nat.le_of_ble_eq_true rfl) rfl ?_
  refine bw_iload dX3_casesAskedBy_8 rfl ?_
  refine bw_istore (i := 5) (L' := [some (.ref 18), some (.int a0), some (.int a1), some (.int 0), some (.int (a0 * 8)), some (.int (a0 * 8))]) dX3_casesAskedBy_10 (Nat.le_of_ble_eq_true rfl) rfl ?_
  exact h
theorem wfX7_beginWith_18 {E : bw_E} {d : Nat} {w : bw_W} {Q : bw_W → Prop} {l2 : Int32}  (h : ((52 ≤ l2 → Q w) ∧ (¬ (52 ≤ l2) → (vp_in l2 52) ∧
bw_G E (d + 1) mX7_beginWith 18 [some (.ref 31), some (.ref 18), some (.int (l2 + 1))] [] (sw_l w 32 (l2.toNatClampNeg) 0) (bw_qv Q)))) : bw_G E (d + 1) mX7_beginWith 18 [some (.ref 31), some (.ref 18), some (.int l2)] [] w (bw_qv Q) := by
  refine bw_iload_n (i := 2) dX7_beginWith_18 rfl rfl ?_
  refine bw_aload_n (i := 0) dX7_beginWith_19 rfl rfl ?_
  refine bw_getr (r := 32) fg_BentWords_State_11 rfl rfl dX7_beginWith_20 ?_
  refine bw_alenl (v := 52) rfl (by decide) dX7_beginWith_23 ?_
  refine bw_icmp_ge (tgt := 40) dX7_beginWith_24 (by decide) (fun c => ?_) (fun c => ?_)
  · replace h := h.1 (c)
    exact bw_return dX7_beginWith_40 rfl ⟨rfl, h⟩
  · replace h := h.2 (c)
    refine bw_aload_n (i := 0) dX7_beginWith_27 rfl rfl ?_
    refine bw_getr (r := 32) fg_BentWords_State_11 rfl rfl dX7_beginWith_28 ?_
    refine bw_iload_n (i := 2) dX7_beginWith_31 rfl rfl ?_
    refine bw_lconst (v := 0) dX7_beginWith_32 rfl ?_
    obtain ⟨hi1, h⟩ := h
    refine bw_lastore rfl hi1 dX7_beginWith_33 ?_
    refine bw_iinc (i := 2) (x := l2) (v := (l2 + 1)) (L' := [some (.ref 31), some (.ref 18), some (.int (l2 + 1))]) dX7_beginWith_34 rfl rfl (Nat.le_of_ble_eq_true rfl) rfl ?_
    refine bw_goto (tgt := 18) dX7_beginWith_37 (by decide) ?_
    exact h
theorem wfX7_beginWith {E : bw_E} {d : Nat} {w : bw_W} {Q : bw_W → Prop}   (h : bw_G E (d + 1) mX7_beginWith 18 [some (.ref 31), some (.ref 18), some (.int 48)] [] (cw_l w 32 (fun j => if j < 48 then (gw_l w 21 j) else (gw_l w 32 j))) (bw_qv Q)) : bw_rv E (d + 1) mX7_beginWith [.ref 31, .ref 18] w Q := by
  refine bw_enter rfl (Nat.le_of_ble_eq_true rfl) ?_
  refine bw_aload_n (i := 1) dX7_beginWith_0 rfl rfl ?_
  refine bw_getr (r := 21) fg_BentWords_State_15 rfl rfl dX7_beginWith_1 ?_
  refine bw_iconst (v := 0) dX7_beginWith_4 (by decide) ?_
  refine bw_aload_n (i := 0) dX7_beginWith_5 rfl rfl ?_
  refine bw_getr (r := 32) fg_BentWords_State_11 rfl rfl dX7_beginWith_6 ?_
  refine bw_iconst (v := 0) dX7_beginWith_9 (by decide) ?_
  refine bw_bipush (v := 48) dX7_beginWith_10 (by decide) ?_
  refine bw_copyl (k := 48) (f := (fun j => if j < 48 then (gw_l w 21 j) else (gw_l w 32 j))) rfl cc_BentWords_State_20 rfl rfl (by decide) (by decide) (by decide) (by decide) (Nat.le_of_ble_eq_true rfl) dX7_beginWith_12 ?_
  refine bw_bipush (v := 48) dX7_beginWith_15 (by decide) ?_
  refine bw_istore_n (i := 2) (L' := [some (.ref 31), some (.ref 18), some (.int 48)]) dX7_beginWith_17 rfl (Nat.le_of_ble_eq_true rfl) rfl ?_
  exact h
theorem wfX7_copyFrom_as {E : bw_E} {d : Nat} {w : bw_W} {Q : bw_W → Prop}   (h : Q (cw_l w 34 (fun j => if j < 52 then (gw_l w 32 j) else (gw_l w 34 j)))) : bw_rv E (d + 1) mX7_copyFrom [.ref 33, .ref 31] w Q := by
  refine bw_enter rfl (Nat.le_of_ble_eq_true rfl) ?_
  refine bw_aload_n (i := 1) dX7_copyFrom_0 rfl rfl ?_
  refine bw_getr (r := 32) fg_BentWords_State_11 rfl rfl dX7_copyFrom_1 ?_
  refine bw_iconst (v := 0) dX7_copyFrom_4 (by decide) ?_
  refine bw_aload_n (i := 0) dX7_copyFrom_5 rfl rfl ?_
  refine bw_getr (r := 34) fg_BentWords_State_11 rfl rfl dX7_copyFrom_6 ?_
  refine bw_iconst (v := 0) dX7_copyFrom_9 (by decide) ?_
  refine bw_aload_n (i := 0) dX7_copyFrom_10 rfl rfl ?_
  refine bw_getr (r := 34) fg_BentWords_State_11 rfl rfl dX7_copyFrom_11 ?_
  refine bw_alenl (v := 52) rfl (by decide) dX7_copyFrom_14 ?_
  refine bw_copyl (k := 52) (f := (fun j => if j < 52 then (gw_l w 32 j) else (gw_l w 34 j))) rfl cc_BentWords_State_20 rfl rfl (by decide) (by decide) (by decide) (by decide) (Nat.le_of_ble_eq_true rfl) dX7_copyFrom_15 ?_
  exact bw_return dX7_copyFrom_18 rfl ⟨rfl, h⟩
theorem wfX7_copyFrom_sa {E : bw_E} {d : Nat} {w : bw_W} {Q : bw_W → Prop}   (h : Q (cw_l w 32 (fun j => if j < 52 then (gw_l w 34 j) else (gw_l w 32 j)))) : bw_rv E (d + 1) mX7_copyFrom [.ref 31, .ref 33] w Q := by
  refine bw_enter rfl (Nat.le_of_ble_eq_true rfl) ?_
  refine bw_aload_n (i := 1) dX7_copyFrom_0 rfl rfl ?_
  refine bw_getr (r := 34) fg_BentWords_State_11 rfl rfl dX7_copyFrom_1 ?_
  refine bw_iconst (v := 0) dX7_copyFrom_4 (by decide) ?_
  refine bw_aload_n (i := 0) dX7_copyFrom_5 rfl rfl ?_
  refine bw_getr (r := 32) fg_BentWords_State_11 rfl rfl dX7_copyFrom_6 ?_
  refine bw_iconst (v := 0) dX7_copyFrom_9 (by decide) ?_
  refine bw_aload_n (i := 0) dX7_copyFrom_10 rfl rfl ?_
  refine bw_getr (r := 32) fg_BentWords_State_11 rfl rfl dX7_copyFrom_11 ?_
  refine bw_alenl (v := 52) rfl (by decide) dX7_copyFrom_14 ?_
  refine bw_copyl (k := 52) (f := (fun j => if j < 52 then (gw_l w 34 j) else (gw_l w 32 j))) rfl cc_BentWords_State_20 rfl rfl (by decide) (by decide) (by decide) (by decide) (Nat.le_of_ble_eq_true rfl) dX7_copyFrom_15 ?_
  exact bw_return dX7_copyFrom_18 rfl ⟨rfl, h⟩
theorem wfX7_copyFrom_im {E : bw_E} {d : Nat} {w : bw_W} {Q : bw_W → Prop}   (h : Q (cw_l w 42 (fun j => if j < 52 then (gw_l w 32 j) else (gw_l w 42 j)))) : bw_rv E (d + 1) mX7_copyFrom [.ref 41, .ref 31] w Q := by
  refine bw_enter rfl (Nat.le_of_ble_eq_true rfl) ?_
  refine bw_aload_n (i := 1) dX7_copyFrom_0 rfl rfl ?_
  refine bw_getr (r := 32) fg_BentWords_State_11 rfl rfl dX7_copyFrom_1 ?_
  refine bw_iconst (v := 0) dX7_copyFrom_4 (by decide) ?_
  refine bw_aload_n (i := 0) dX7_copyFrom_5 rfl rfl ?_
  refine bw_getr (r := 42) fg_BentWords_State_11 rfl rfl dX7_copyFrom_6 ?_
  refine bw_iconst (v := 0) dX7_copyFrom_9 (by decide) ?_
  refine bw_aload_n (i := 0) dX7_copyFrom_10 rfl rfl ?_
  refine bw_getr (r := 42) fg_BentWords_State_11 rfl rfl dX7_copyFrom_11 ?_
  refine bw_alenl (v := 52) rfl (by decide) dX7_copyFrom_14 ?_
  refine bw_copyl (k := 52) (f := (fun j => if j < 52 then (gw_l w 32 j) else (gw_l w 42 j))) rfl cc_BentWords_State_20 rfl rfl (by decide) (by decide) (by decide) (by decide) (Nat.le_of_ble_eq_true rfl) dX7_copyFrom_15 ?_
  exact bw_return dX7_copyFrom_18 rfl ⟨rfl, h⟩
theorem wfX7_copyFrom_bk {E : bw_E} {d : Nat} {w : bw_W} {Q : bw_W → Prop}   (h : Q (cw_l w 32 (fun j => if j < 52 then (gw_l w 42 j) else (gw_l w 32 j)))) : bw_rv E (d + 1) mX7_copyFrom [.ref 31, .ref 41] w Q := by
  refine bw_enter rfl (Nat.le_of_ble_eq_true rfl) ?_
  refine bw_aload_n (i := 1) dX7_copyFrom_0 rfl rfl ?_
  refine bw_getr (r := 42) fg_BentWords_State_11 rfl rfl dX7_copyFrom_1 ?_
  refine bw_iconst (v := 0) dX7_copyFrom_4 (by decide) ?_
  refine bw_aload_n (i := 0) dX7_copyFrom_5 rfl rfl ?_
  refine bw_getr (r := 32) fg_BentWords_State_11 rfl rfl dX7_copyFrom_6 ?_
  refine bw_iconst (v := 0) dX7_copyFrom_9 (by decide) ?_
  refine bw_aload_n (i := 0) dX7_copyFrom_10 rfl rfl ?_
  refine bw_getr (r := 32) fg_BentWords_State_11 rfl rfl dX7_copyFrom_11 ?_
  refine bw_alenl (v := 52) rfl (by decide) dX7_copyFrom_14 ?_
  refine bw_copyl (k := 52) (f := (fun j => if j < 52 then (gw_l w 42 j) else (gw_l w 32 j))) rfl cc_BentWords_State_20 rfl rfl (by decide) (by decide) (by decide) (by decide) (Nat.le_of_ble_eq_true rfl) dX7_copyFrom_15 ?_
  exact bw_return dX7_copyFrom_18 rfl ⟨rfl, h⟩
theorem fs_X7_copyFrom_as {E : bw_E} {d : Nat} {w : bw_W} {Q : bw_W → Prop}    (h : Q (cw_l w 34 (fun j => if j < 52 then (gw_l w 32 j) else (gw_l w 34 j)))) : bw_rv E (d + 1) mX7_copyFrom [.ref 33, .ref 31] w Q := by
  refine wfX7_copyFrom_as  ?_
  exact h
theorem fs_X7_copyFrom_sa {E : bw_E} {d : Nat} {w : bw_W} {Q : bw_W → Prop}    (h : Q (cw_l w 32 (fun j => if j < 52 then (gw_l w 34 j) else (gw_l w 32 j)))) : bw_rv E (d + 1) mX7_copyFrom [.ref 31, .ref 33] w Q := by
  refine wfX7_copyFrom_sa  ?_
  exact h
theorem fs_X7_copyFrom_im {E : bw_E} {d : Nat} {w : bw_W} {Q : bw_W → Prop}    (h : Q (cw_l w 42 (fun j => if j < 52 then (gw_l w 32 j) else (gw_l w 42 j)))) : bw_rv E (d + 1) mX7_copyFrom [.ref 41, .ref 31] w Q := by
  refine wfX7_copyFrom_im  ?_
  exact h
theorem fs_X7_copyFrom_bk {E : bw_E} {d : Nat} {w : bw_W} {Q : bw_W → Prop}    (h : Q (cw_l w 32 (fun j => if j < 52 then (gw_l w 42 j) else (gw_l w 32 j)))) : bw_rv E (d + 1) mX7_copyFrom [.ref 31, .ref 41] w Q := by
  refine wfX7_copyFrom_bk  ?_
  exact h
theorem wfX8_cell {E : bw_E} {d : Nat} {w : bw_W} {Q : Int32 → bw_W → Prop} {sp : Nat} (h_sp : bw_sh sp = (0, 8, 5)) (h : (((gw_i w sp 0) = 0 → Q (48 + (gw_i w sp 1)) w) ∧ ((gw_i w sp 0) = 1 → Q (48 + (gw_i w sp 1)) w) ∧ ((gw_i w sp 0) = 2 → Q 51 w) ∧ ((gw_i w sp 0).toInt < 0 ∨ 2 < (gw_i w sp 0).toInt → Q ((((gw_i w sp 1) * 8) + ((gw_i w sp 2) * 2)) + (gw_i w sp 3)) w))) : bw_ri E (d + 1) mX8_cell [.ref sp] w Q := by
  refine bw_enter rfl (Nat.le_of_ble_eq_true rfl) ?_
  refine bw_aload_n (i := 0) dX8_cell_0 rfl rfl ?_
  refine bw_geti fg_BentWords_Step_9 h_sp dX8_cell_1 ?_
  refine bw_tabsw dX8_cell_4 [32, 32, 40] 43 (by decide) rfl rfl (fun j hj hx => ?_) (fun hx => ?_)
  · match j, hj, hx with
    | 0, _, hx =>
      replace h := h.1 (bw_ti hx (by decide))
      refine bw_bipush (v := 48) dX8_cell_32 (by decide) ?_
      refine bw_aload_n (i := 0) dX8_cell_34 rfl rfl ?_
      refine bw_geti fg_BentWords_Step_15 h_sp dX8_cell_35 ?_
      refine bw_iadd dX8_cell_38 ?_
      exact bw_ireturn dX8_cell_39 rfl rfl ⟨_, rfl, h⟩
    | 1, _, hx =>
      replace h := h.2.1 (bw_ti hx (by decide))
      refine bw_bipush (v := 48) dX8_cell_32 (by decide) ?_
      refine bw_aload_n (i := 0) dX8_cell_34 rfl rfl ?_
      refine bw_geti fg_BentWords_Step_15 h_sp dX8_cell_35 ?_
      refine bw_iadd dX8_cell_38 ?_
      exact bw_ireturn dX8_cell_39 rfl rfl ⟨_, rfl, h⟩
    | 2, _, hx =>
      replace h := h.2.2.1 (bw_ti hx (by decide))
      refine bw_bipush (v := 51) dX8_cell_40 (by decide) ?_
      exact bw_ireturn dX8_cell_42 rfl rfl ⟨_, rfl, h⟩
    | j + 3, hj, _ => exact absurd hj (by simp)
  · replace h := h.2.2.2 hx
    refine bw_aload_n (i := 0) dX8_cell_43 rfl rfl ?_
    refine bw_geti fg_BentWords_Step_15 h_sp dX8_cell_44 ?_
    refine bw_aload_n (i := 0) dX8_cell_47 rfl rfl ?_
    refine bw_geti fg_BentWords_Step_18 h_sp dX8_cell_48 ?_
    refine bw_aload_n (i := 0) dX8_cell_51 rfl rfl ?_
    refine bw_geti fg_BentWords_Step_21 h_sp dX8_cell_52 ?_
    refine bw_cSi (As := [.int (gw_i w sp 1), .int (gw_i w sp 2), .int (gw_i w sp 3)]) (st := []) (Q' := (fun v w1 => ((((gw_i w sp 1) * 8) + ((gw_i w sp 2) * 2)) + (gw_i w sp 3)) = v ∧ w = w1)) cs_BentWords_Step_30 (fs_X7_formCell (d := d + 0) (a0 := (gw_i w sp 1)) (a1 := (gw_i w sp 2)) (a2 := (gw_i w sp 3))  ⟨rfl, rfl⟩) rfl rfl (Nat.le_of_ble_eq_true rfl) dX8_cell_55 (fun v w1 hv => ?_)
    obtain ⟨rfl, rfl⟩ := hv
    exact bw_ireturn dX8_cell_58 rfl rfl ⟨_, rfl, h⟩
theorem wfX8_value {E : bw_E} {d : Nat} {w : bw_W} {Q : Int64 → bw_W → Prop} {sp : Nat} (h_sp : bw_sh sp = (0, 8, 5)) (h : (((gw_i w sp 0) = 0 → Q (((1 + ((gw_i w sp 2) * 100)) + (gw_i w sp 3)).toInt64) w) ∧ ((gw_i w sp 0) = 1 → Q 0 w) ∧ ((gw_i w sp 0) = 2 → Q ((gw_i w sp 1).toInt64) w) ∧ ((gw_i w sp 0) = 3 → Q (gw_l w sp 4) w) ∧ ((gw_i w sp 0).toInt < 0 ∨ 3 < (gw_i w sp 0).toInt → Q 0 w))) : bw_rl E (d + 1) mX8_value [.ref sp] w Q := by
  refine bw_enter rfl (Nat.le_of_ble_eq_true rfl) ?_
  refine bw_aload_n (i := 0) dX8_value_0 rfl rfl ?_
  refine bw_geti fg_BentWords_Step_9 h_sp dX8_value_1 ?_
  refine bw_tabsw dX8_value_4 [36, 59, 48, 54] 59 (by decide) rfl rfl (fun j hj hx => ?_) (fun hx => ?_)
  · match j, hj, hx with
    | 0, _, hx =>
      replace h := h.1 (bw_ti hx (by decide))
      refine bw_aload_n (i := 0) dX8_value_36 rfl rfl ?_
      refine bw_geti fg_BentWords_Step_18 h_sp dX8_value_37 ?_
      refine bw_aload_n (i := 0) dX8_value_40 rfl rfl ?_
      refine bw_geti fg_BentWords_Step_21 h_sp dX8_value_41 ?_
      refine bw_cSl (As := [.int (gw_i w sp 2), .int (gw_i w sp 3)]) (st := []) (Q' := (fun v w1 => (((1 + ((gw_i w sp 2) * 100)) + (gw_i w sp 3)).toInt64) = v ∧ w = w1)) cs_BentWords_Step_34 (fs_X7_filling (d := d + 0) (a0 := (gw_i w sp 2)) (a1 := (gw_i w sp 3))  ⟨rfl, rfl⟩) rfl rfl (Nat.le_of_ble_eq_true rfl) dX8_value_44 (fun v w1 hv => ?_)
      obtain ⟨rfl, rfl⟩ := hv
      exact bw_lreturn dX8_value_47 rfl ⟨_, rfl, h⟩
    | 1, _, hx =>
      replace h := h.2.1 (bw_ti hx (by decide))
      refine bw_lconst (v := 0) dX8_value_59 rfl ?_
      exact bw_lreturn dX8_value_60 rfl ⟨_, rfl, h⟩
    | 2, _, hx =>
      replace h := h.2.2.1 (bw_ti hx (by decide))
      refine bw_aload_n (i := 0) dX8_value_48 rfl rfl ?_
      refine bw_geti fg_BentWords_Step_15 h_sp dX8_value_49 ?_
      refine bw_i2l dX8_value_52 ?_
      exact bw_lreturn dX8_value_53 rfl ⟨_, rfl, h⟩
    | 3, _, hx =>
      replace h := h.2.2.2.1 (bw_ti hx (by decide))
      refine bw_aload_n (i := 0) dX8_value_54 rfl rfl ?_
      refine bw_getl fg_BentWords_Step_24 h_sp dX8_value_55 ?_
      exact bw_lreturn dX8_value_58 rfl ⟨_, rfl, h⟩
    | j + 4, hj, _ => exact absurd hj (by simp)
  · replace h := h.2.2.2.2 hx
    refine bw_lconst (v := 0) dX8_value_59 rfl ?_
    exact bw_lreturn dX8_value_60 rfl ⟨_, rfl, h⟩
theorem wfX10_formOf {E : bw_E} {d : Nat} {w : bw_W} {Q : Int64 → bw_W → Prop} {a0 : Int32} {a1 : Int32} {a2 : Int32}  (h : (∃ Q1 : Int32 → bw_W → Prop, bw_ri E (d + 0) mX7_defaultOf [.ref 31, .int a0, .int a1, .int a2] w Q1 ∧ ∀ v2 w3, Q1 v2 w3 →
((v2 = 0 → (vp_in (((a0 * 8) + (a1 * 2)) + a2) 52) ∧
Q (gw_l w3 32 ((((a0 * 8) + (a1 * 2)) + a2).toNatClampNeg)) w3) ∧ (v2 = 1 → (vp_in (((a0 * 8) + (0 * 2)) + a2) 52) ∧
Q (gw_l w3 32 ((((a0 * 8) + (0 * 2)) + a2).toNatClampNeg)) w3) ∧ (v2 = 2 → (vp_in (((a0 * 8) + (a1 * 2)) + 0) 52) ∧
Q (gw_l w3 32 ((((a0 * 8) + (a1 * 2)) + 0).toNatClampNeg)) w3) ∧ (v2 = 3 → (vp_in (((a0 * 8) + (0 * 2)) + 0) 52) ∧
Q (gw_l w3 32 ((((a0 * 8) + (0 * 2)) + 0).toNatClampNeg)) w3) ∧ (v2.toInt < 0 ∨ 3 < v2.toInt → (vp_in a0 6) ∧
Q (gw_l w3 19 (a0.toNatClampNeg)) w3)))) : bw_rl E (d + 1) mX10_formOf [.ref 35, .int a0, .int a1, .int a2] w Q := by
  refine bw_enter rfl (Nat.le_of_ble_eq_true rfl) ?_
  refine bw_aload_n (i := 0) dX10_formOf_0 rfl rfl ?_
  refine bw_getr (r := 31) fg_BentWords_Teller_15 rfl rfl dX10_formOf_1 ?_
  refine bw_iload_n (i := 1) dX10_formOf_4 rfl rfl ?_
  refine bw_iload_n (i := 2) dX10_formOf_5 rfl rfl ?_
  refine bw_iload_n (i := 3) dX10_formOf_6 rfl rfl ?_
  obtain ⟨Q1, hr, h⟩ := h
  refine bw_cVi (As := [.int a0, .int a1, .int a2]) (st := []) cv_BentWords_Teller_23 rfl rfl hr rfl rfl (Nat.le_of_ble_eq_true rfl) dX10_formOf_7 (fun v2 w3 hv => ?_)
  replace h := h v2 w3 hv
  clear hr
  refine bw_tabsw dX10_formOf_10 [40, 55, 70, 85] 100 (by decide) rfl rfl (fun j hj hx => ?_) (fun hx => ?_)
  · match j, hj, hx with
    | 0, _, hx =>
      replace h := h.1 (bw_ti hx (by decide))
      refine bw_aload_n (i := 0) dX10_formOf_40 rfl rfl ?_
      refine bw_getr (r := 31) fg_BentWords_Teller_15 rfl rfl dX10_formOf_41 ?_
      refine bw_getr (r := 32) fg_BentWords_Teller_29 rfl rfl dX10_formOf_44 ?_
      refine bw_iload_n (i := 1) dX10_formOf_47 rfl rfl ?_
      refine bw_iload_n (i := 2) dX10_formOf_48 rfl rfl ?_
      refine bw_iload_n (i := 3) dX10_formOf_49 rfl rfl ?_
      refine bw_cSi (As := [.int a0, .int a1, .int a2]) (st := [.ref 32]) (Q' := (fun v w1 => (((a0 * 8) + (a1 * 2)) + a2) = v ∧ w3 = w1)) cs_BentWords_Teller_33 (fs_X7_formCell (d := d + 0) (a0 := a0) (a1 := a1) (a2 := a2)  ⟨rfl, rfl⟩) rfl rfl (Nat.le_of_ble_eq_true rfl) dX10_formOf_50 (fun v w1 hv => ?_)
      obtain ⟨rfl, rfl⟩ := hv
      obtain ⟨hi4, h⟩ := h
      refine bw_laload rfl hi4 dX10_formOf_53 ?_
      exact bw_lreturn dX10_formOf_54 rfl ⟨_, rfl, h⟩
    | 1, _, hx =>
      replace h := h.2.1 (bw_ti hx (by decide))
      refine bw_aload_n (i := 0) dX10_formOf_55 rfl rfl ?_
      refine bw_getr (r := 31) fg_BentWords_Teller_15 rfl rfl dX10_formOf_56 ?_
      refine bw_getr (r := 32) fg_BentWords_Teller_29 rfl rfl dX10_formOf_59 ?_
      refine bw_iload_n (i := 1) dX10_formOf_62 rfl rfl ?_
      refine bw_iconst (v := 0) dX10_formOf_63 (by decide) ?_
      refine bw_iload_n (i := 3) dX10_formOf_64 rfl rfl ?_
      refine bw_cSi (As := [.int a0, .int 0, .int a2]) (st := [.ref 32]) (Q' := (fun v w1 => (((a0 * 8) + (0 * 2)) + a2) = v ∧ w3 = w1)) cs_BentWords_Teller_33 (fs_X7_formCell (d := d + 0) (a0 := a0) (a1 := 0) (a2 := a2)  ⟨rfl, rfl⟩) rfl rfl (Nat.le_of_ble_eq_true rfl) dX10_formOf_65 (fun v w1 hv => ?_)
      obtain ⟨rfl, rfl⟩ := hv
      obtain ⟨hi5, h⟩ := h
      refine bw_laload rfl hi5 dX10_formOf_68 ?_
      exact bw_lreturn dX10_formOf_69 rfl ⟨_, rfl, h⟩
    | 2, _, hx =>
      replace h := h.2.2.1 (bw_ti hx (by decide))
      refine bw_aload_n (i := 0) dX10_formOf_70 rfl rfl ?_
      refine bw_getr (r := 31) fg_BentWords_Teller_15 rfl rfl dX10_formOf_71 ?_
      refine bw_getr (r := 32) fg_BentWords_Teller_29 rfl rfl dX10_formOf_74 ?_
      refine bw_iload_n (i := 1) dX10_formOf_77 rfl rfl ?_
      refine bw_iload_n (i := 2) dX10_formOf_78 rfl rfl ?_
      refine bw_iconst (v := 0) dX10_formOf_79 (by decide) ?_
      refine bw_cSi (As := [.int a0, .int a1, .int 0]) (st := [.ref 32]) (Q' := (fun v w1 => (((a0 * 8) + (a1 * 2)) + 0) = v ∧ w3 = w1)) cs_BentWords_Teller_33 (fs_X7_formCell (d := d + 0) (a0 := a0) (a1 := a1) (a2 := 0)  ⟨rfl, rfl⟩) rfl rfl (Nat.le_of_ble_eq_true rfl) dX10_formOf_80 (fun v w1 hv => ?_)
      obtain ⟨rfl, rfl⟩ := hv
      obtain ⟨hi6, h⟩ := h
      refine bw_laload rfl hi6 dX10_formOf_83 ?_
      exact bw_lreturn dX10_formOf_84 rfl ⟨_, rfl, h⟩
    | 3, _, hx =>
      replace h := h.2.2.2.1 (bw_ti hx (by decide))
      refine bw_aload_n (i := 0) dX10_formOf_85 rfl rfl ?_
      refine bw_getr (r := 31) fg_BentWords_Teller_15 rfl rfl dX10_formOf_86 ?_
      refine bw_getr (r := 32) fg_BentWords_Teller_29 rfl rfl dX10_formOf_89 ?_
      refine bw_iload_n (i := 1) dX10_formOf_92 rfl rfl ?_
      refine bw_iconst (v := 0) dX10_formOf_93 (by decide) ?_
      refine bw_iconst (v := 0) dX10_formOf_94 (by decide) ?_
      refine bw_cSi (As := [.int a0, .int 0, .int 0]) (st := [.ref 32]) (Q' := (fun v w1 => (((a0 * 8) + (0 * 2)) + 0) = v ∧ w3 = w1)) cs_BentWords_Teller_33 (fs_X7_formCell (d := d + 0) (a0 := a0) (a1 := 0) (a2 := 0)  ⟨rfl, rfl⟩) rfl rfl (Nat.le_of_ble_eq_true rfl) dX10_formOf_95 (fun v w1 hv => ?_)
      obtain ⟨rfl, rfl⟩ := hv
      obtain ⟨hi7, h⟩ := h
      refine bw_laload rfl hi7 dX10_formOf_98 ?_
      exact bw_lreturn dX10_formOf_99 rfl ⟨_, rfl, h⟩
    | j + 4, hj, _ => exact absurd hj (by simp)
  · replace h := h.2.2.2.2 hx
    refine bw_aload_n (i := 0) dX10_formOf_100 rfl rfl ?_
    refine bw_getr (r := 18) fg_BentWords_Teller_9 rfl rfl dX10_formOf_101 ?_
    refine bw_getr (r := 19) fg_BentWords_Teller_36 rfl rfl dX10_formOf_104 ?_
    refine bw_iload_n (i := 1) dX10_formOf_107 rfl rfl ?_
    obtain ⟨hi8, h⟩ := h
    refine bw_laload rfl hi8 dX10_formOf_108 ?_
    exact bw_lreturn dX10_formOf_109 rfl ⟨_, rfl, h⟩
theorem wfX10_agree {E : bw_E} {d : Nat} {w : bw_W} {Q : Bool → bw_W → Prop} {a0 : Int32} {a1 : Int32} {a2 : Int32}  (h : (((vp_in (48 + a2) 52))) ∧
((¬ ((gw_l w 32 ((48 + a2).toNatClampNeg)) = 0) → ((¬ a0 = 61 → (((vp_in (48 + a1) 52))) ∧
(vp_in (vX7_nounIn w a1) 6) ∧
(((vp_in (48 + a2) 52))) ∧
(vp_in (vX7_nounIn w a2) 6) ∧
(((gw_i w 20 ((vX7_nounIn w a1).toNatClampNeg)) = (gw_i w 20 ((vX7_nounIn w a2).toNatClampNeg)) → Q true w) ∧ (¬ ((gw_i w 20 ((vX7_nounIn w a1).toNatClampNeg)) = (gw_i w 20 ((vX7_nounIn w a2).toNatClampNeg))) → ((¬ False → Q false (sw_i (sw_i w 35 5 a2) 35 6 3)) ∧ (False → Q true (sw_i (sw_i w 35 5 a2) 35 6 3)))))) ∧ (a0 = 61 → (((vp_in (48 + a1) 52))) ∧
(((vp_in (48 + a2) 52))) ∧
(((vX7_numberIn w a1) = (vX7_numberIn w a2) → Q true w) ∧ (¬ ((vX7_numberIn w a1) = (vX7_numberIn w a2)) → ((¬ False → Q false (sw_i (sw_i w 35 5 a2) 35 6 2)) ∧ (False → Q true (sw_i (sw_i w 35 5 a2) 35 6 2)))))))) ∧ (((gw_l w 32 ((48 + a2).toNatClampNeg)) = 0) → Q (decide False) (sw_i (sw_i w 35 5 a2) 35 6 0)))) : bw_rb E (d + 1) mX10_agree [.ref 35, .int a0, .int a1, .int a2] w Q := by
  refine bw_enter rfl (Nat.le_of_ble_eq_true rfl) ?_
  refine bw_aload_n (i := 0) dX10_agree_0 rfl rfl ?_
  refine bw_getr (r := 31) fg_BentWords_Teller_15 rfl rfl dX10_agree_1 ?_
  refine bw_iload_n (i := 3) dX10_agree_4 rfl rfl ?_
  obtain ⟨hc1, h⟩ := h
  refine bw_cVb (As := [.int a2]) (st := []) (Q' := (fun v w1 => (decide ((gw_l w 32 ((48 + a2).toNatClampNeg)) = 0)) = v ∧ w = w1)) cv_BentWords_Teller_75 rfl rfl (fs_X7_isOpen (d := d + 0) (a0 := a2) hc1 ⟨rfl, rfl⟩) rfl rfl (Nat.le_of_ble_eq_true rfl) dX10_agree_5 (fun v w1 hv => ?_)
  obtain ⟨rfl, rfl⟩ := hv
  refine bw_ifb_eq (tgt := 18) dX10_agree_8 (by decide) (fun c => ?_) (fun c => ?_)
  · replace h := h.1 (of_decide_eq_false c)
    refine bw_iload_n (i := 1) dX10_agree_18 rfl rfl ?_
    refine bw_bipush (v := 61) dX10_agree_19 (by decide) ?_
    refine bw_icmp_ne (tgt := 58) dX10_agree_21 (by decide) (fun c => ?_) (fun c => ?_)
    · replace h := h.1 (c)
      refine bw_aload_n (i := 0) dX10_agree_58 rfl rfl ?_
      refine bw_getr (r := 18) fg_BentWords_Teller_9 rfl rfl dX10_agree_59 ?_
      refine bw_getr (r := 20) fg_BentWords_Teller_100 rfl rfl dX10_agree_62 ?_
      refine bw_aload_n (i := 0) dX10_agree_65 rfl rfl ?_
      refine bw_getr (r := 31) fg_BentWords_Teller_15 rfl rfl dX10_agree_66 ?_
      refine bw_iload_n (i := 2) dX10_agree_69 rfl rfl ?_
      obtain ⟨hc2, h⟩ := h
      refine bw_cVi (As := [.int a1]) (st := [.ref 20]) (Q' := (fun v w1 => (vX7_nounIn w a1) = v ∧ w = w1)) cv_BentWords_Teller_103 rfl rfl (fs_X7_nounIn (d := d + 0) (a0 := a1) hc2 ⟨rfl, rfl⟩) rfl rfl (Nat.le_of_ble_eq_true rfl) dX10_agree_70 (fun v w1 hv => ?_)
      obtain ⟨rfl, rfl⟩ := hv
      obtain ⟨hi3, h⟩ := h
      refine bw_iaload rfl hi3 dX10_agree_73 ?_
      refine bw_istore (i := 4) (L' := [some (.ref 35), some (.int a0), some (.int a1), some (.int a2), some (.int (gw_i w 20 ((vX7_nounIn w a1).toNatClampNeg))), none]) dX10_agree_74 (Nat.le_of_ble_eq_true rfl) rfl ?_
      refine bw_aload_n (i := 0) dX10_agree_76 rfl rfl ?_
      refine bw_getr (r := 18) fg_BentWords_Teller_9 rfl rfl dX10_agree_77 ?_
      refine bw_getr (r := 20) fg_BentWords_Teller_100 rfl rfl dX10_agree_80 ?_
      refine bw_aload_n (i := 0) dX10_agree_83 rfl rfl ?_
      refine bw_getr (r := 31) fg_BentWords_Teller_15 rfl rfl dX10_agree_84 ?_
      refine bw_iload_n (i := 3) dX10_agree_87 rfl rfl ?_
      obtain ⟨hc4, h⟩ := h
      refine bw_cVi (As := [.int a2]) (st := [.ref 20]) (Q' := (fun v w1 => (vX7_nounIn w a2) = v ∧ w = w1)) cv_BentWords_Teller_103 rfl rfl (fs_X7_nounIn (d := d + 0) (a0 := a2) hc4 ⟨rfl, rfl⟩) rfl rfl (Nat.le_of_ble_eq_true rfl) dX10_agree_88 (fun v w1 hv => ?_)
      obtain ⟨rfl, rfl⟩ := hv
      obtain ⟨hi5, h⟩ := h
      refine bw_iaload rfl hi5 dX10_agree_91 ?_
      refine bw_istore (i := 5) (L' := [some (.ref 35), some (.int a0), some (.int a1), some (.int a2), some (.int (gw_i w 20 ((vX7_nounIn w a1).toNatClampNeg))), some (.int (gw_i w 20 ((vX7_nounIn w a2).toNatClampNeg)))]) dX10_agree_92 (Nat.le_of_ble_eq_true rfl) rfl ?_
      refine bw_iload dX10_agree_94 rfl ?_
      refine bw_iload dX10_agree_96 rfl ?_
      refine bw_icmp_eq (tgt := 110) dX10_agree_98 (by decide) (fun c => ?_) (fun c => ?_)
      · replace h := h.1 (c)
        refine bw_iconst (v := 1) dX10_agree_110 (by decide) ?_
        refine bw_goto (tgt := 115) dX10_agree_111 (by decide) ?_
        exact bw_ireturn dX10_agree_115 rfl (bw_nb true) ⟨true, rfl, h⟩
      · replace h := h.2 (c)
        refine bw_aload_n (i := 0) dX10_agree_101 rfl rfl ?_
        refine bw_iload_n (i := 3) dX10_agree_102 rfl rfl ?_
        refine bw_iconst (v := 3) dX10_agree_103 (by decide) ?_
        refine bw_cVb (As := [.int a2, .int 3]) (st := []) (Q' := (fun v w1 => (decide False) = v ∧ (sw_i (sw_i w 35 5 a2) 35 6 3) = w1)) cv_BentWords_Teller_78 rfl rfl (fs_X10_refuse (d := d + 0) (a0 := a2) (a1 := 3)  ⟨rfl, rfl⟩) rfl rfl (Nat.le_of_ble_eq_true rfl) dX10_agree_104 (fun v w1 hv => ?_)
        obtain ⟨rfl, rfl⟩ := hv
        refine bw_ifb_eq (tgt := 114) dX10_agree_107 (by decide) (fun c => ?_) (fun c => ?_)
        · replace h := h.1 (of_decide_eq_false c)
          refine bw_iconst (v := 0) dX10_agree_114 (by decide) ?_
          exact bw_ireturn dX10_agree_115 rfl (bw_nb false) ⟨false, rfl, h⟩
        · replace h := h.2 (of_decide_eq_true c)
          refine bw_iconst (v := 1) dX10_agree_110 (by decide) ?_
          refine bw_goto (tgt := 115) dX10_agree_111 (by decide) ?_
          exact bw_ireturn dX10_agree_115 rfl (bw_nb true) ⟨true, rfl, h⟩
    · replace h := h.2 (c)
      refine bw_aload_n (i := 0) dX10_agree_24 rfl rfl ?_
      refine bw_getr (r := 31) fg_BentWords_Teller_15 rfl rfl dX10_agree_25 ?_
      refine bw_iload_n (i := 2) dX10_agree_28 rfl rfl ?_
      obtain ⟨hc6, h⟩ := h
      refine bw_cVi (As := [.int a1]) (st := []) (Q' := (fun v w1 => (vX7_numberIn w a1) = v ∧ w = w1)) cv_BentWords_Teller_96 rfl rfl (fs_X7_numberIn (d := d + 0) (a0 := a1) hc6 ⟨rfl, rfl⟩) rfl rfl (Nat.le_of_ble_eq_true rfl) dX10_agree_29 (fun v w1 hv => ?_)
      obtain ⟨rfl, rfl⟩ := hv
      refine bw_aload_n (i := 0) dX10_agree_32 rfl rfl ?_
      refine bw_getr (r := 31) fg_BentWords_Teller_15 rfl rfl dX10_agree_33 ?_
      refine bw_iload_n (i := 3) dX10_agree_36 rfl rfl ?_
      obtain ⟨hc7, h⟩ := h
      refine bw_cVi (As := [.int a2]) (st := [.int (vX7_numberIn w a1)]) (Q' := (fun v w1 => (vX7_numberIn w a2) = v ∧ w = w1)) cv_BentWords_Teller_96 rfl rfl (fs_X7_numberIn (d := d + 0) (a0 := a2) hc7 ⟨rfl, rfl⟩) rfl rfl (Nat.le_of_ble_eq_true rfl) dX10_agree_37 (fun v w1 hv => ?_)
      obtain ⟨rfl, rfl⟩ := hv
      refine bw_icmp_eq (tgt := 52) dX10_agree_40 (by decide) (fun c => ?_) (fun c => ?_)
      · replace h := h.1 (c)
        refine bw_iconst (v := 1) dX10_agree_52 (by decide) ?_
        refine bw_goto (tgt := 57) dX10_agree_53 (by decide) ?_
        exact bw_ireturn dX10_agree_57 rfl (bw_nb true) ⟨true, rfl, h⟩
      · replace h := h.2 (c)
        refine bw_aload_n (i := 0) dX10_agree_43 rfl rfl ?_
        refine bw_iload_n (i := 3) dX10_agree_44 rfl rfl ?_
        refine bw_iconst (v := 2) dX10_agree_45 (by decide) ?_
        refine bw_cVb (As := [.int a2, .int 2]) (st := []) (Q' := (fun v w1 => (decide False) = v ∧ (sw_i (sw_i w 35 5 a2) 35 6 2) = w1)) cv_BentWords_Teller_78 rfl rfl (fs_X10_refuse (d := d + 0) (a0 := a2) (a1 := 2)  ⟨rfl, rfl⟩) rfl rfl (Nat.le_of_ble_eq_true rfl) dX10_agree_46 (fun v w1 hv => ?_)
        obtain ⟨rfl, rfl⟩ := hv
        refine bw_ifb_eq (tgt := 56) dX10_agree_49 (by decide) (fun c => ?_) (fun c => ?_)
        · replace h := h.1 (of_decide_eq_false c)
          refine bw_iconst (v := 0) dX10_agree_56 (by decide) ?_
          exact bw_ireturn dX10_agree_57 rfl (bw_nb false) ⟨false, rfl, h⟩
        · replace h := h.2 (of_decide_eq_true c)
          refine bw_iconst (v := 1) dX10_agree_52 (by decide) ?_
          refine bw_goto (tgt := 57) dX10_agree_53 (by decide) ?_
          exact bw_ireturn dX10_agree_57 rfl (bw_nb true) ⟨true, rfl, h⟩
  · replace h := h.2 (of_decide_eq_true c)
    refine bw_aload_n (i := 0) dX10_agree_11 rfl rfl ?_
    refine bw_iload_n (i := 3) dX10_agree_12 rfl rfl ?_
    refine bw_iconst (v := 0) dX10_agree_13 (by decide) ?_
    refine bw_cVb (As := [.int a2, .int 0]) (st := []) (Q' := (fun v w1 => (decide False) = v ∧ (sw_i (sw_i w 35 5 a2) 35 6 0) = w1)) cv_BentWords_Teller_78 rfl rfl (fs_X10_refuse (d := d + 0) (a0 := a2) (a1 := 0)  ⟨rfl, rfl⟩) rfl rfl (Nat.le_of_ble_eq_true rfl) dX10_agree_14 (fun v w1 hv => ?_)
    obtain ⟨rfl, rfl⟩ := hv
    exact bw_ireturn dX10_agree_17 rfl (bw_nb _) ⟨_, rfl, h⟩
theorem wfX10_isAllTold {E : bw_E} {d : Nat} {w : bw_W} {Q : Bool → bw_W → Prop} {a0 : Int32}  (h : (vp_in a0 32) ∧
(vp_in a0 32) ∧
(((vp_in (48 + (gw_i w 27 (a0.toNatClampNeg))) 52))) ∧
(vp_in a0 32) ∧
(((vp_in (48 + (gw_i w 27 (a0.toNatClampNeg))) 52))) ∧
((¬ (gw_i w 26 (a0.toNatClampNeg)) = 37 → (vp_in (vX7_nounIn w (gw_i w 27 (a0.toNatClampNeg))) 6) ∧
(vp_in (((((gw_i w 28 (a0.toNatClampNeg)) * 2) + (vX7_numberIn w (gw_i w 27 (a0.toNatClampNeg)))) * 3) + (gw_i w 20 ((vX7_nounIn w (gw_i w 27 (a0.toNatClampNeg))).toNatClampNeg))) 24) ∧
(((gw_i w 26 (a0.toNatClampNeg)) = 35 → (((gw_i w 26 (a0.toNatClampNeg)) = 37 → Q true w) ∧ (¬ ((gw_i w 26 (a0.toNatClampNeg)) = 37) → (∃ Q8 : Int32 → bw_W → Prop, bw_ri E (d + 0) mX7_defaultOf [.ref 31, .int (vX7_nounIn w (gw_i w 27 (a0.toNatClampNeg))), .int (gw_i w 28 (a0.toNatClampNeg)), .int (vX7_numberIn w (gw_i w 27 (a0.toNatClampNeg)))] w Q8 ∧ ∀ v9 w10, Q8 v9 w10 →
((v9 = 0 → Q true w10) ∧ (¬ (v9 = 0) → ((¬ False → Q false (sw_i (sw_i w10 35 5 (gw_i w 27 (a0.toNatClampNeg))) 35 6 1)) ∧ (False → Q true (sw_i (sw_i w10 35 5 (gw_i w 27 (a0.toNatClampNeg))) 35 6 1))))))))) ∧ (¬ ((gw_i w 26 (a0.toNatClampNeg)) = 35) → ((¬ (gw_l w 22 ((((((gw_i w 28 (a0.toNatClampNeg)) * 2) + (vX7_numberIn w (gw_i w 27 (a0.toNatClampNeg)))) * 3) + (gw_i w 20 ((vX7_nounIn w (gw_i w 27 (a0.toNatClampNeg))).toNatClampNeg))).toNatClampNeg)) = 0 → (((gw_i w 26 (a0.toNatClampNeg)) = 37 → Q true w) ∧ (¬ ((gw_i w 26 (a0.toNatClampNeg)) = 37) → (∃ Q11 : Int32 → bw_W → Prop, bw_ri E (d + 0) mX7_defaultOf [.ref 31, .int (vX7_nounIn w (gw_i w 27 (a0.toNatClampNeg))), .int (gw_i w 28 (a0.toNatClampNeg)), .int (vX7_numberIn w (gw_i w 27 (a0.toNatClampNeg)))] w Q11 ∧ ∀ v12 w13, Q11 v12 w13 →
((v12 = 0 → Q true w13) ∧ (¬ (v12 = 0) → ((¬ False → Q false (sw_i (sw_i w13 35 5 (gw_i w 27 (a0.toNatClampNeg))) 35 6 1)) ∧ (False → Q true (sw_i (sw_i w13 35 5 (gw_i w 27 (a0.toNatClampNeg))) 35 6 1))))))))) ∧ ((gw_l w 22 ((((((gw_i w 28 (a0.toNatClampNeg)) * 2) + (vX7_numberIn w (gw_i w 27 (a0.toNatClampNeg)))) * 3) + (gw_i w 20 ((vX7_nounIn w (gw_i w 27 (a0.toNatClampNeg))).toNatClampNeg))).toNatClampNeg)) = 0 → Q (decide False) (sw_i (sw_i w 35 5 (gw_i w 27 (a0.toNatClampNeg))) 35 6 4)))))) ∧ ((gw_i w 26 (a0.toNatClampNeg)) = 37 → (vp_in (vX7_nounIn w (gw_i w 27 (a0.toNatClampNeg))) 6) ∧
(vp_in (((((gw_i w 28 (a0.toNatClampNeg)) * 2) + (vX7_numberIn w (gw_i w 27 (a0.toNatClampNeg)))) * 3) + (gw_i w 20 ((vX7_nounIn w (gw_i w 27 (a0.toNatClampNeg))).toNatClampNeg))) 24) ∧
(((gw_i w 26 (a0.toNatClampNeg)) = 35 → (((gw_i w 26 (a0.toNatClampNeg)) = 37 → Q true w) ∧ (¬ ((gw_i w 26 (a0.toNatClampNeg)) = 37) → (∃ Q16 : Int32 → bw_W → Prop, bw_ri E (d + 0) mX7_defaultOf [.ref 31, .int (vX7_nounIn w (gw_i w 27 (a0.toNatClampNeg))), .int (gw_i w 28 (a0.toNatClampNeg)), .int (vX7_numberIn w (gw_i w 27 (a0.toNatClampNeg)))] w Q16 ∧ ∀ v17 w18, Q16 v17 w18 →
((v17 = 0 → Q true w18) ∧ (¬ (v17 = 0) → ((¬ False → Q false (sw_i (sw_i w18 35 5 (gw_i w 27 (a0.toNatClampNeg))) 35 6 1)) ∧ (False → Q true (sw_i (sw_i w18 35 5 (gw_i w 27 (a0.toNatClampNeg))) 35 6 1))))))))) ∧ (¬ ((gw_i w 26 (a0.toNatClampNeg)) = 35) → ((¬ (gw_l w 23 ((((((gw_i w 28 (a0.toNatClampNeg)) * 2) + (vX7_numberIn w (gw_i w 27 (a0.toNatClampNeg)))) * 3) + (gw_i w 20 ((vX7_nounIn w (gw_i w 27 (a0.toNatClampNeg))).toNatClampNeg))).toNatClampNeg)) = 0 → (((gw_i w 26 (a0.toNatClampNeg)) = 37 → Q true w) ∧ (¬ ((gw_i w 26 (a0.toNatClampNeg)) = 37) → (∃ Q19 : Int32 → bw_W → Prop, bw_ri E (d + 0) mX7_defaultOf [.ref 31, .int (vX7_nounIn w (gw_i w 27 (a0.toNatClampNeg))), .int (gw_i w 28 (a0.toNatClampNeg)), .int (vX7_numberIn w (gw_i w 27 (a0.toNatClampNeg)))] w Q19 ∧ ∀ v20 w21, Q19 v20 w21 →
((v20 = 0 → Q true w21) ∧ (¬ (v20 = 0) → ((¬ False → Q false (sw_i (sw_i w21 35 5 (gw_i w 27 (a0.toNatClampNeg))) 35 6 1)) ∧ (False → Q true (sw_i (sw_i w21 35 5 (gw_i w 27 (a0.toNatClampNeg))) 35 6 1))))))))) ∧ ((gw_l w 23 ((((((gw_i w 28 (a0.toNatClampNeg)) * 2) + (vX7_numberIn w (gw_i w 27 (a0.toNatClampNeg)))) * 3) + (gw_i w 20 ((vX7_nounIn w (gw_i w 27 (a0.toNatClampNeg))).toNatClampNeg))).toNatClampNeg)) = 0 → Q (decide False) (sw_i (sw_i w 35 5 (gw_i w 27 (a0.toNatClampNeg))) 35 6 4)))))))) : bw_rb E (d + 1) mX10_isAllTold [.ref 35, .int a0] w Q := by
  refine bw_enter rfl (Nat.le_of_ble_eq_true rfl) ?_
  refine bw_aload_n (i := 0) dX10_isAllTold_0 rfl rfl ?_
  refine bw_getr (r := 18) fg_BentWords_Teller_9 rfl rfl dX10_isAllTold_1 ?_
  refine bw_getr (r := 26) fg_BentWords_Teller_69 rfl rfl dX10_isAllTold_4 ?_
  refine bw_iload_n (i := 1) dX10_isAllTold_7 rfl rfl ?_
  obtain ⟨hi1, h⟩ := h
  refine bw_caload rfl hi1 dX10_isAllTold_8 ?_
  refine bw_istore_n (i := 2) (L' := [some (.ref 35), some (.int a0), some (.int (gw_i w 26 (a0.toNatClampNeg))), none, none, none, none, none, none, none]) dX10_isAllTold_9 rfl (Nat.le_of_ble_eq_true rfl) rfl ?_
  refine bw_aload_n (i := 0) dX10_isAllTold_10 rfl rfl ?_
  refine bw_getr (r := 18) fg_BentWords_Teller_9 rfl rfl dX10_isAllTold_11 ?_
  refine bw_getr (r := 27) fg_BentWords_Teller_72 rfl rfl dX10_isAllTold_14 ?_
  refine bw_iload_n (i := 1) dX10_isAllTold_17 rfl rfl ?_
  obtain ⟨hi2, h⟩ := h
  refine bw_iaload rfl hi2 dX10_isAllTold_18 ?_
  refine bw_istore_n (i := 3) (L' := [some (.ref 35), some (.int a0), some (.int (gw_i w 26 (a0.toNatClampNeg))), some (.int (gw_i w 27 (a0.toNatClampNeg))), none, none, none, none, none, none]) dX10_isAllTold_19 rfl (Nat.le_of_ble_eq_true rfl) rfl ?_
  refine bw_aload_n (i := 0) dX10_isAllTold_20 rfl rfl ?_
  refine bw_getr (r := 31) fg_BentWords_Teller_15 rfl rfl dX10_isAllTold_21 ?_
  refine bw_iload_n (i := 3) dX10_isAllTold_24 rfl rfl ?_
  obtain ⟨hc3, h⟩ := h
  refine bw_cVi (As := [.int (gw_i w 27 (a0.toNatClampNeg))]) (st := []) (Q' := (fun v w1 => (vX7_nounIn w (gw_i w 27 (a0.toNatClampNeg))) = v ∧ w = w1)) cv_BentWords_Teller_103 rfl rfl (fs_X7_nounIn (d := d + 0) (a0 := (gw_i w 27 (a0.toNatClampNeg))) hc3 ⟨rfl, rfl⟩) rfl rfl (Nat.le_of_ble_eq_true rfl) dX10_isAllTold_25 (fun v w1 hv => ?_)
  obtain ⟨rfl, rfl⟩ := hv
  refine bw_istore (i := 4) (L' := [some (.ref 35), some (.int a0), some (.int (gw_i w 26 (a0.toNatClampNeg))), some (.int (gw_i w 27 (a0.toNatClampNeg))), some (.int (vX7_nounIn w (gw_i w 27 (a0.toNatClampNeg)))), none, none, none, none, none]) dX10_isAllTold_28 (Nat.le_of_ble_eq_true rfl) rfl ?_
  refine bw_aload_n (i := 0) dX10_isAllTold_30 rfl rfl ?_
  refine bw_getr (r := 18) fg_BentWords_Teller_9 rfl rfl dX10_isAllTold_31 ?_
  refine bw_getr (r := 28) fg_BentWords_Teller_82 rfl rfl dX10_isAllTold_34 ?_
  refine bw_iload_n (i := 1) dX10_isAllTold_37 rfl rfl ?_
  obtain ⟨hi4, h⟩ := h
  refine bw_iaload rfl hi4 dX10_isAllTold_38 ?_
  refine bw_istore (i := 5) (L' := [some (.ref 35), some (.int a0), some (.int (gw_i w 26 (a0.toNatClampNeg))), some (.int (gw_i w 27 (a0.toNatClampNeg))), some (.int (vX7_nounIn w (gw_i w 27 (a0.toNatClampNeg)))), some (.int (gw_i w 28 (a0.toNatClampNeg))), none, none, none, none]) dX10_isAllTold_39 (Nat.le_of_ble_eq_true rfl) rfl ?_
  refine bw_aload_n (i := 0) dX10_isAllTold_41 rfl rfl ?_
  refine bw_getr (r := 31) fg_BentWords_Teller_15 rfl rfl dX10_isAllTold_42 ?_
  refine bw_iload_n (i := 3) dX10_isAllTold_45 rfl rfl ?_
  obtain ⟨hc5, h⟩ := h
  refine bw_cVi (As := [.int (gw_i w 27 (a0.toNatClampNeg))]) (st := []) (Q' := (fun v w1 => (vX7_numberIn w (gw_i w 27 (a0.toNatClampNeg))) = v ∧ w = w1)) cv_BentWords_Teller_96 rfl rfl (fs_X7_numberIn (d := d + 0) (a0 := (gw_i w 27 (a0.toNatClampNeg))) hc5 ⟨rfl, rfl⟩) rfl rfl (Nat.le_of_ble_eq_true rfl) dX10_isAllTold_46 (fun v w1 hv => ?_)
  obtain ⟨rfl, rfl⟩ := hv
  refine bw_istore (i := 6) (L' := [some (.ref 35), some (.int a0), some (.int (gw_i w 26 (a0.toNatClampNeg))), some (.int (gw_i w 27 (a0.toNatClampNeg))), some (.int (vX7_nounIn w (gw_i w 27 (a0.toNatClampNeg)))), some (.int (gw_i w 28 (a0.toNatClampNeg))), some (.int (vX7_numberIn w (gw_i w 27 (a0.toNatClampNeg)))), none, none, none]) dX10_isAllTold_49 (Nat.le_of_ble_eq_true rfl) rfl ?_
  refine bw_iload_n (i := 2) dX10_isAllTold_51 rfl rfl ?_
  refine bw_bipush (v := 37) dX10_isAllTold_52 (by decide) ?_
  refine bw_icmp_ne (tgt := 67) dX10_isAllTold_54 (by decide) (fun c => ?_) (fun c => ?_)
  · replace h := h.1 (c)
    refine bw_aload_n (i := 0) dX10_isAllTold_67 rfl rfl ?_
    refine bw_getr (r := 18) fg_BentWords_Teller_9 rfl rfl dX10_isAllTold_68 ?_
    refine bw_getr (r := 22) fg_BentWords_Teller_109 rfl rfl dX10_isAllTold_71 ?_
    refine bw_astore (i := 7) (L' := [some (.ref 35), some (.int a0), some (.int (gw_i w 26 (a0.toNatClampNeg))), some (.int (gw_i w 27 (a0.toNatClampNeg))), some (.int (vX7_nounIn w (gw_i w 27 (a0.toNatClampNeg)))), some (.int (gw_i w 28 (a0.toNatClampNeg))), some (.int (vX7_numberIn w (gw_i w 27 (a0.toNatClampNeg)))), some (.ref 22), none, none]) dX10_isAllTold_74 (Nat.le_of_ble_eq_true rfl) rfl ?_
    refine bw_aload dX10_isAllTold_76 rfl ?_
    refine bw_iload dX10_isAllTold_78 rfl ?_
    refine bw_iload dX10_isAllTold_80 rfl ?_
    refine bw_aload_n (i := 0) dX10_isAllTold_82 rfl rfl ?_
    refine bw_getr (r := 18) fg_BentWords_Teller_9 rfl rfl dX10_isAllTold_83 ?_
    refine bw_getr (r := 20) fg_BentWords_Teller_100 rfl rfl dX10_isAllTold_86 ?_
    refine bw_iload dX10_isAllTold_89 rfl ?_
    obtain ⟨hi6, h⟩ := h
    refine bw_iaload rfl hi6 dX10_isAllTold_91 ?_
    refine bw_cSi (As := [.int (gw_i w 28 (a0.toNatClampNeg)), .int (vX7_numberIn w (gw_i w 27 (a0.toNatClampNeg))), .int (gw_i w 20 ((vX7_nounIn w (gw_i w 27 (a0.toNatClampNeg))).toNatClampNeg))]) (st := [.ref 22]) (Q' := (fun v w1 => (((((gw_i w 28 (a0.toNatClampNeg)) * 2) + (vX7_numberIn w (gw_i w 27 (a0.toNatClampNeg)))) * 3) + (gw_i w 20 ((vX7_nounIn w (gw_i w 27 (a0.toNatClampNeg))).toNatClampNeg))) = v ∧ w = w1)) cs_BentWords_Teller_112 (fs_X3_boundSlot (d := d + 0) (a0 := (gw_i w 28 (a0.toNatClampNeg))) (a1 := (vX7_numberIn w (gw_i w 27 (a0.toNatClampNeg)))) (a2 := (gw_i w 20 ((vX7_nounIn w (gw_i w 27 (a0.toNatClampNeg))).toNatClampNeg)))  ⟨rfl, rfl⟩) rfl rfl (Nat.le_of_ble_eq_true rfl) dX10_isAllTold_92 (fun v w1 hv => ?_)
    obtain ⟨rfl, rfl⟩ := hv
    obtain ⟨hi7, h⟩ := h
    refine bw_laload rfl hi7 dX10_isAllTold_95 ?_
    refine bw_lstore (i := 8) (L' := [some (.ref 35), some (.int a0), some (.int (gw_i w 26 (a0.toNatClampNeg))), some (.int (gw_i w 27 (a0.toNatClampNeg))), some (.int (vX7_nounIn w (gw_i w 27 (a0.toNatClampNeg)))), some (.int (gw_i w 28 (a0.toNatClampNeg))), some (.int (vX7_numberIn w (gw_i w 27 (a0.toNatClampNeg)))), some (.ref 22), some (.long (gw_l w 22 ((((((gw_i w 28 (a0.toNatClampNeg)) * 2) + (vX7_numberIn w (gw_i w 27 (a0.toNatClampNeg)))) * 3) + (gw_i w 20 ((vX7_nounIn w (gw_i w 27 (a0.toNatClampNeg))).toNatClampNeg))).toNatClampNeg))), none]) dX10_isAllTold_96 (Nat.le_of_ble_eq_true rfl) rfl ?_
    refine bw_iload_n (i := 2) dX10_isAllTold_98 rfl rfl ?_
    refine bw_bipush (v := 35) dX10_isAllTold_99 (by decide) ?_
    refine bw_icmp_eq (tgt := 118) dX10_isAllTold_101 (by decide) (fun c => ?_) (fun c => ?_)
    · replace h := h.1 (c)
      refine bw_iload_n (i := 2) dX10_isAllTold_118 rfl rfl ?_
      refine bw_bipush (v := 37) dX10_isAllTold_119 (by decide) ?_
      refine bw_icmp_eq (tgt := 149) dX10_isAllTold_121 (by decide) (fun c => ?_) (fun c => ?_)
      · replace h := h.1 (c)
        refine bw_iconst (v := 1) dX10_isAllTold_149 (by decide) ?_
        refine bw_goto (tgt := 154) dX10_isAllTold_150 (by decide) ?_
        exact bw_ireturn dX10_isAllTold_154 rfl (bw_nb true) ⟨true, rfl, h⟩
      · replace h := h.2 (c)
        refine bw_aload_n (i := 0) dX10_isAllTold_124 rfl rfl ?_
        refine bw_getr (r := 31) fg_BentWords_Teller_15 rfl rfl dX10_isAllTold_125 ?_
        refine bw_iload dX10_isAllTold_128 rfl ?_
        refine bw_iload dX10_isAllTold_130 rfl ?_
        refine bw_iload dX10_isAllTold_132 rfl ?_
        obtain ⟨Q8, hr, h⟩ := h
        refine bw_cVi (As := [.int (vX7_nounIn w (gw_i w 27 (a0.toNatClampNeg))), .int (gw_i w 28 (a0.toNatClampNeg)), .int (vX7_numberIn w (gw_i w 27 (a0.toNatClampNeg)))]) (st := []) cv_BentWords_Teller_23 rfl rfl hr rfl rfl (Nat.le_of_ble_eq_true rfl) dX10_isAllTold_134 (fun v9 w10 hv => ?_)
        replace h := h v9 w10 hv
        clear hr
        refine bw_if_eq (tgt := 149) dX10_isAllTold_137 (by decide) (fun c => ?_) (fun c => ?_)
        · replace h := h.1 (c)
          refine bw_iconst (v := 1) dX10_isAllTold_149 (by decide) ?_
          refine bw_goto (tgt := 154) dX10_isAllTold_150 (by decide) ?_
          exact bw_ireturn dX10_isAllTold_154 rfl (bw_nb true) ⟨true, rfl, h⟩
        · replace h := h.2 (c)
          refine bw_aload_n (i := 0) dX10_isAllTold_140 rfl rfl ?_
          refine bw_iload_n (i := 3) dX10_isAllTold_141 rfl rfl ?_
          refine bw_iconst (v := 1) dX10_isAllTold_142 (by decide) ?_
          refine bw_cVb (As := [.int (gw_i w 27 (a0.toNatClampNeg)), .int 1]) (st := []) (Q' := (fun v w1 => (decide False) = v ∧ (sw_i (sw_i w10 35 5 (gw_i w 27 (a0.toNatClampNeg))) 35 6 1) = w1)) cv_BentWords_Teller_78 rfl rfl (fs_X10_refuse (d := d + 0) (a0 := (gw_i w 27 (a0.toNatClampNeg))) (a1 := 1)  ⟨rfl, rfl⟩) rfl rfl (Nat.le_of_ble_eq_true rfl) dX10_isAllTold_143 (fun v w1 hv => ?_)
          obtain ⟨rfl, rfl⟩ := hv
          refine bw_ifb_eq (tgt := 153) dX10_isAllTold_146 (by decide) (fun c => ?_) (fun c => ?_)
          · replace h := h.1 (of_decide_eq_false c)
            refine bw_iconst (v := 0) dX10_isAllTold_153 (by decide) ?_
            exact bw_ireturn dX10_isAllTold_154 rfl (bw_nb false) ⟨false, rfl, h⟩
          · replace h := h.2 (of_decide_eq_true c)
            refine bw_iconst (v := 1) dX10_isAllTold_149 (by decide) ?_
            refine bw_goto (tgt := 154) dX10_isAllTold_150 (by decide) ?_
            exact bw_ireturn dX10_isAllTold_154 rfl (bw_nb true) ⟨true, rfl, h⟩
    · replace h := h.2 (c)
      refine bw_lload dX10_isAllTold_104 rfl ?_
      refine bw_lconst (v := 0) dX10_isAllTold_106 rfl ?_
      refine bw_lcmp_ne (tgt := 118) dX10_isAllTold_107 dX10_isAllTold_108 (by decide) (fun c => ?_) (fun c => ?_)
      · replace h := h.1 (c)
        refine bw_iload_n (i := 2) dX10_isAllTold_118 rfl rfl ?_
        refine bw_bipush (v := 37) dX10_isAllTold_119 (by decide) ?_
        refine bw_icmp_eq (tgt := 149) dX10_isAllTold_121 (by decide) (fun c => ?_) (fun c => ?_)
        · replace h := h.1 (c)
          refine bw_iconst (v := 1) dX10_isAllTold_149 (by decide) ?_
          refine bw_goto (tgt := 154) dX10_isAllTold_150 (by decide) ?_
          exact bw_ireturn dX10_isAllTold_154 rfl (bw_nb true) ⟨true, rfl, h⟩
        · replace h := h.2 (c)
          refine bw_aload_n (i := 0) dX10_isAllTold_124 rfl rfl ?_
          refine bw_getr (r := 31) fg_BentWords_Teller_15 rfl rfl dX10_isAllTold_125 ?_
          refine bw_iload dX10_isAllTold_128 rfl ?_
          refine bw_iload dX10_isAllTold_130 rfl ?_
          refine bw_iload dX10_isAllTold_132 rfl ?_
          obtain ⟨Q11, hr, h⟩ := h
          refine bw_cVi (As := [.int (vX7_nounIn w (gw_i w 27 (a0.toNatClampNeg))), .int (gw_i w 28 (a0.toNatClampNeg)), .int (vX7_numberIn w (gw_i w 27 (a0.toNatClampNeg)))]) (st := []) cv_BentWords_Teller_23 rfl rfl hr rfl rfl (Nat.le_of_ble_eq_true rfl) dX10_isAllTold_134 (fun v12 w13 hv => ?_)
          replace h := h v12 w13 hv
          clear hr
          refine bw_if_eq (tgt := 149) dX10_isAllTold_137 (by decide) (fun c => ?_) (fun c => ?_)
          · replace h := h.1 (c)
            refine bw_iconst (v := 1) dX10_isAllTold_149 (by decide) ?_
            refine bw_goto (tgt := 154) dX10_isAllTold_150 (by decide) ?_
            exact bw_ireturn dX10_isAllTold_154 rfl (bw_nb true) ⟨true, rfl, h⟩
          · replace h := h.2 (c)
            refine bw_aload_n (i := 0) dX10_isAllTold_140 rfl rfl ?_
            refine bw_iload_n (i := 3) dX10_isAllTold_141 rfl rfl ?_
            refine bw_iconst (v := 1) dX10_isAllTold_142 (by decide) ?_
            refine bw_cVb (As := [.int (gw_i w 27 (a0.toNatClampNeg)), .int 1]) (st := []) (Q' := (fun v w1 => (decide False) = v ∧ (sw_i (sw_i w13 35 5 (gw_i w 27 (a0.toNatClampNeg))) 35 6 1) = w1)) cv_BentWords_Teller_78 rfl rfl (fs_X10_refuse (d := d + 0) (a0 := (gw_i w 27 (a0.toNatClampNeg))) (a1 := 1)  ⟨rfl, rfl⟩) rfl rfl (Nat.le_of_ble_eq_true rfl) dX10_isAllTold_143 (fun v w1 hv => ?_)
            obtain ⟨rfl, rfl⟩ := hv
            refine bw_ifb_eq (tgt := 153) dX10_isAllTold_146 (by decide) (fun c => ?_) (fun c => ?_)
            · replace h := h.1 (of_decide_eq_false c)
              refine bw_iconst (v := 0) dX10_isAllTold_153 (by decide) ?_
              exact bw_ireturn dX10_isAllTold_154 rfl (bw_nb false) ⟨false, rfl, h⟩
            · replace h := h.2 (of_decide_eq_true c)
              refine bw_iconst (v := 1) dX10_isAllTold_149 (by decide) ?_
              refine bw_goto (tgt := 154) dX10_isAllTold_150 (by decide) ?_
              exact bw_ireturn dX10_isAllTold_154 rfl (bw_nb true) ⟨true, rfl, h⟩
      · replace h := h.2 (c)
        refine bw_aload_n (i := 0) dX10_isAllTold_111 rfl rfl ?_
        refine bw_iload_n (i := 3) dX10_isAllTold_112 rfl rfl ?_
        refine bw_iconst (v := 4) dX10_isAllTold_113 (by decide) ?_
        refine bw_cVb (As := [.int (gw_i w 27 (a0.toNatClampNeg)), .int 4]) (st := []) (Q' := (fun v w1 => (decide False) = v ∧ (sw_i (sw_i w 35 5 (gw_i w 27 (a0.toNatClampNeg))) 35 6 4) = w1)) cv_BentWords_Teller_78 rfl rfl (fs_X10_refuse (d := d + 0) (a0 := (gw_i w 27 (a0.toNatClampNeg))) (a1 := 4)  ⟨rfl, rfl⟩) rfl rfl (Nat.le_of_ble_eq_true rfl) dX10_isAllTold_114 (fun v w1 hv => ?_)
        obtain ⟨rfl, rfl⟩ := hv
        exact bw_ireturn dX10_isAllTold_117 rfl (bw_nb _) ⟨_, rfl, h⟩
  · replace h := h.2 (c)
    refine bw_aload_n (i := 0) dX10_isAllTold_57 rfl rfl ?_
    refine bw_getr (r := 18) fg_BentWords_Teller_9 rfl rfl dX10_isAllTold_58 ?_
    refine bw_getr (r := 23) fg_BentWords_Teller_106 rfl rfl dX10_isAllTold_61 ?_
    refine bw_goto (tgt := 74) dX10_isAllTold_64 (by decide) ?_
    refine bw_astore (i := 7) (L' := [some (.ref 35), some (.int a0), some (.int (gw_i w 26 (a0.toNatClampNeg))), some (.int (gw_i w 27 (a0.toNatClampNeg))), some (.int (vX7_nounIn w (gw_i w 27 (a0.toNatClampNeg)))), some (.int (gw_i w 28 (a0.toNatClampNeg))), some (.int (vX7_numberIn w (gw_i w 27 (a0.toNatClampNeg)))), some (.ref 23), none, none]) dX10_isAllTold_74 (Nat.le_of_ble_eq_true rfl) rfl ?_
    refine bw_aload dX10_isAllTold_76 rfl ?_
    refine bw_iload dX10_isAllTold_78 rfl ?_
    refine bw_iload dX10_isAllTold_80 rfl ?_
    refine bw_aload_n (i := 0) dX10_isAllTold_82 rfl rfl ?_
    refine bw_getr (r := 18) fg_BentWords_Teller_9 rfl rfl dX10_isAllTold_83 ?_
    refine bw_getr (r := 20) fg_BentWords_Teller_100 rfl rfl dX10_isAllTold_86 ?_
    refine bw_iload dX10_isAllTold_89 rfl ?_
    obtain ⟨hi14, h⟩ := h
    refine bw_iaload rfl hi14 dX10_isAllTold_91 ?_
    refine bw_cSi (As := [.int (gw_i w 28 (a0.toNatClampNeg)), .int (vX7_numberIn w (gw_i w 27 (a0.toNatClampNeg))), .int (gw_i w 20 ((vX7_nounIn w (gw_i w 27 (a0.toNatClampNeg))).toNatClampNeg))]) (st := [.ref 23]) (Q' := (fun v w1 => (((((gw_i w 28 (a0.toNatClampNeg)) * 2) + (vX7_numberIn w (gw_i w 27 (a0.toNatClampNeg)))) * 3) + (gw_i w 20 ((vX7_nounIn w (gw_i w 27 (a0.toNatClampNeg))).toNatClampNeg))) = v ∧ w = w1)) cs_BentWords_Teller_112 (fs_X3_boundSlot (d := d + 0) (a0 := (gw_i w 28 (a0.toNatClampNeg))) (a1 := (vX7_numberIn w (gw_i w 27 (a0.toNatClampNeg)))) (a2 := (gw_i w 20 ((vX7_nounIn w (gw_i w 27 (a0.toNatClampNeg))).toNatClampNeg)))  ⟨rfl, rfl⟩) rfl rfl (Nat.le_of_ble_eq_true rfl) dX10_isAllTold_92 (fun v w1 hv => ?_)
    obtain ⟨rfl, rfl⟩ := hv
    obtain ⟨hi15, h⟩ := h
    refine bw_laload rfl hi15 dX10_isAllTold_95 ?_
    refine bw_lstore (i := 8) (L' := [some (.ref 35), some (.int a0), some (.int (gw_i w 26 (a0.toNatClampNeg))), some (.int (gw_i w 27 (a0.toNatClampNeg))), some (.int (vX7_nounIn w (gw_i w 27 (a0.toNatClampNeg)))), some (.int (gw_i w 28 (a0.toNatClampNeg))), some (.int (vX7_numberIn w (gw_i w 27 (a0.toNatClampNeg)))), some (.ref 23), some (.long (gw_l w 23 ((((((gw_i w 28 (a0.toNatClampNeg)) * 2) + (vX7_numberIn w (gw_i w 27 (a0.toNatClampNeg)))) * 3) + (gw_i w 20 ((vX7_nounIn w (gw_i w 27 (a0.toNatClampNeg))).toNatClampNeg))).toNatClampNeg))), none]) dX10_isAllTold_96 (Nat.le_of_ble_eq_true rfl) rfl ?_
    refine bw_iload_n (i := 2) dX10_isAllTold_98 rfl rfl ?_
    refine bw_bipush (v := 35) dX10_isAllTold_99 (by decide) ?_
    refine bw_icmp_eq (tgt := 118) dX10_isAllTold_101 (by decide) (fun c => ?_) (fun c => ?_)
    · replace h := h.1 (c)
      refine bw_iload_n (i := 2) dX10_isAllTold_118 rfl rfl ?_
      refine bw_bipush (v := 37) dX10_isAllTold_119 (by decide) ?_
      refine bw_icmp_eq (tgt := 149) dX10_isAllTold_121 (by decide) (fun c => ?_) (fun c => ?_)
      · replace h := h.1 (c)
        refine bw_iconst (v := 1) dX10_isAllTold_149 (by decide) ?_
        refine bw_goto (tgt := 154) dX10_isAllTold_150 (by decide) ?_
        exact bw_ireturn dX10_isAllTold_154 rfl (bw_nb true) ⟨true, rfl, h⟩
      · replace h := h.2 (c)
        refine bw_aload_n (i := 0) dX10_isAllTold_124 rfl rfl ?_
        refine bw_getr (r := 31) fg_BentWords_Teller_15 rfl rfl dX10_isAllTold_125 ?_
        refine bw_iload dX10_isAllTold_128 rfl ?_
        refine bw_iload dX10_isAllTold_130 rfl ?_
        refine bw_iload dX10_isAllTold_132 rfl ?_
        obtain ⟨Q16, hr, h⟩ := h
        refine bw_cVi (As := [.int (vX7_nounIn w (gw_i w 27 (a0.toNatClampNeg))), .int (gw_i w 28 (a0.toNatClampNeg)), .int (vX7_numberIn w (gw_i w 27 (a0.toNatClampNeg)))]) (st := []) cv_BentWords_Teller_23 rfl rfl hr rfl rfl (Nat.le_of_ble_eq_true rfl) dX10_isAllTold_134 (fun v17 w18 hv => ?_)
        replace h := h v17 w18 hv
        clear hr
        refine bw_if_eq (tgt := 149) dX10_isAllTold_137 (by decide) (fun c => ?_) (fun c => ?_)
        · replace h := h.1 (c)
          refine bw_iconst (v := 1) dX10_isAllTold_149 (by decide) ?_
          refine bw_goto (tgt := 154) dX10_isAllTold_150 (by decide) ?_
          exact bw_ireturn dX10_isAllTold_154 rfl (bw_nb true) ⟨true, rfl, h⟩
        · replace h := h.2 (c)
          refine bw_aload_n (i := 0) dX10_isAllTold_140 rfl rfl ?_
          refine bw_iload_n (i := 3) dX10_isAllTold_141 rfl rfl ?_
          refine bw_iconst (v := 1) dX10_isAllTold_142 (by decide) ?_
          refine bw_cVb (As := [.int (gw_i w 27 (a0.toNatClampNeg)), .int 1]) (st := []) (Q' := (fun v w1 => (decide False) = v ∧ (sw_i (sw_i w18 35 5 (gw_i w 27 (a0.toNatClampNeg))) 35 6 1) = w1)) cv_BentWords_Teller_78 rfl rfl (fs_X10_refuse (d := d + 0) (a0 := (gw_i w 27 (a0.toNatClampNeg))) (a1 := 1)  ⟨rfl, rfl⟩) rfl rfl (Nat.le_of_ble_eq_true rfl) dX10_isAllTold_143 (fun v w1 hv => ?_)
          obtain ⟨rfl, rfl⟩ := hv
          refine bw_ifb_eq (tgt := 153) dX10_isAllTold_146 (by decide) (fun c => ?_) (fun c => ?_)
          · replace h := h.1 (of_decide_eq_false c)
            refine bw_iconst (v := 0) dX10_isAllTold_153 (by decide) ?_
            exact bw_ireturn dX10_isAllTold_154 rfl (bw_nb false) ⟨false, rfl, h⟩
          · replace h := h.2 (of_decide_eq_true c)
            refine bw_iconst (v := 1) dX10_isAllTold_149 (by decide) ?_
            refine bw_goto (tgt := 154) dX10_isAllTold_150 (by decide) ?_
            exact bw_ireturn dX10_isAllTold_154 rfl (bw_nb true) ⟨true, rfl, h⟩
    · replace h := h.2 (c)
      refine bw_lload dX10_isAllTold_104 rfl ?_
      refine bw_lconst (v := 0) dX10_isAllTold_106 rfl ?_
      refine bw_lcmp_ne (tgt := 118) dX10_isAllTold_107 dX10_isAllTold_108 (by decide) (fun c => ?_) (fun c => ?_)
      · replace h := h.1 (c)
        refine bw_iload_n (i := 2) dX10_isAllTold_118 rfl rfl ?_
        refine bw_bipush (v := 37) dX10_isAllTold_119 (by decide) ?_
        refine bw_icmp_eq (tgt := 149) dX10_isAllTold_121 (by decide) (fun c => ?_) (fun c => ?_)
        · replace h := h.1 (c)
          refine bw_iconst (v := 1) dX10_isAllTold_149 (by decide) ?_
          refine bw_goto (tgt := 154) dX10_isAllTold_150 (by decide) ?_
          exact bw_ireturn dX10_isAllTold_154 rfl (bw_nb true) ⟨true, rfl, h⟩
        · replace h := h.2 (c)
          refine bw_aload_n (i := 0) dX10_isAllTold_124 rfl rfl ?_
          refine bw_getr (r := 31) fg_BentWords_Teller_15 rfl rfl dX10_isAllTold_125 ?_
          refine bw_iload dX10_isAllTold_128 rfl ?_
          refine bw_iload dX10_isAllTold_130 rfl ?_
          refine bw_iload dX10_isAllTold_132 rfl ?_
          obtain ⟨Q19, hr, h⟩ := h
          refine bw_cVi (As := [.int (vX7_nounIn w (gw_i w 27 (a0.toNatClampNeg))), .int (gw_i w 28 (a0.toNatClampNeg)), .int (vX7_numberIn w (gw_i w 27 (a0.toNatClampNeg)))]) (st := []) cv_BentWords_Teller_23 rfl rfl hr rfl rfl (Nat.le_of_ble_eq_true rfl) dX10_isAllTold_134 (fun v20 w21 hv => ?_)
          replace h := h v20 w21 hv
          clear hr
          refine bw_if_eq (tgt := 149) dX10_isAllTold_137 (by decide) (fun c => ?_) (fun c => ?_)
          · replace h := h.1 (c)
            refine bw_iconst (v := 1) dX10_isAllTold_149 (by decide) ?_
            refine bw_goto (tgt := 154) dX10_isAllTold_150 (by decide) ?_
            exact bw_ireturn dX10_isAllTold_154 rfl (bw_nb true) ⟨true, rfl, h⟩
          · replace h := h.2 (c)
            refine bw_aload_n (i := 0) dX10_isAllTold_140 rfl rfl ?_
            refine bw_iload_n (i := 3) dX10_isAllTold_141 rfl rfl ?_
            refine bw_iconst (v := 1) dX10_isAllTold_142 (by decide) ?_
            refine bw_cVb (As := [.int (gw_i w 27 (a0.toNatClampNeg)), .int 1]) (st := []) (Q' := (fun v w1 => (decide False) = v ∧ (sw_i (sw_i w21 35 5 (gw_i w 27 (a0.toNatClampNeg))) 35 6 1) = w1)) cv_BentWords_Teller_78 rfl rfl (fs_X10_refuse (d := d + 0) (a0 := (gw_i w 27 (a0.toNatClampNeg))) (a1 := 1)  ⟨rfl, rfl⟩) rfl rfl (Nat.le_of_ble_eq_true rfl) dX10_isAllTold_143 (fun v w1 hv => ?_)
            obtain ⟨rfl, rfl⟩ := hv
            refine bw_ifb_eq (tgt := 153) dX10_isAllTold_146 (by decide) (fun c => ?_) (fun c => ?_)
            · replace h := h.1 (of_decide_eq_false c)
              refine bw_iconst (v := 0) dX10_isAllTold_153 (by decide) ?_
              exact bw_ireturn dX10_isAllTold_154 rfl (bw_nb false) ⟨false, rfl, h⟩
            · replace h := h.2 (of_decide_eq_true c)
              refine bw_iconst (v := 1) dX10_isAllTold_149 (by decide) ?_
              refine bw_goto (tgt := 154) dX10_isAllTold_150 (by decide) ?_
              exact bw_ireturn dX10_isAllTold_154 rfl (bw_nb true) ⟨true, rfl, h⟩
      · replace h := h.2 (c)
        refine bw_aload_n (i := 0) dX10_isAllTold_111 rfl rfl ?_
        refine bw_iload_n (i := 3) dX10_isAllTold_112 rfl rfl ?_
        refine bw_iconst (v := 4) dX10_isAllTold_113 (by decide) ?_
        refine bw_cVb (As := [.int (gw_i w 27 (a0.toNatClampNeg)), .int 4]) (st := []) (Q' := (fun v w1 => (decide False) = v ∧ (sw_i (sw_i w 35 5 (gw_i w 27 (a0.toNatClampNeg))) 35 6 4) = w1)) cv_BentWords_Teller_78 rfl rfl (fs_X10_refuse (d := d + 0) (a0 := (gw_i w 27 (a0.toNatClampNeg))) (a1 := 4)  ⟨rfl, rfl⟩) rfl rfl (Nat.le_of_ble_eq_true rfl) dX10_isAllTold_114 (fun v w1 hv => ?_)
        obtain ⟨rfl, rfl⟩ := hv
        exact bw_ireturn dX10_isAllTold_117 rfl (bw_nb _) ⟨_, rfl, h⟩
theorem wfX10_defaultIn {E : bw_E} {d : Nat} {w : bw_W} {Q : Int32 → bw_W → Prop} {a0 : Int32}  (h : (vp_in a0 32) ∧
(((vp_in (48 + (gw_i w 27 (a0.toNatClampNeg))) 52))) ∧
(vp_in a0 32) ∧
(((vp_in (48 + (gw_i w 27 (a0.toNatClampNeg))) 52))) ∧
(∃ Q5 : Int32 → bw_W → Prop, bw_ri E (d + 0) mX7_defaultOf [.ref 31, .int (vX7_nounIn w (gw_i w 27 (a0.toNatClampNeg))), .int (gw_i w 28 (a0.toNatClampNeg)), .int (vX7_numberIn w (gw_i w 27 (a0.toNatClampNeg)))] w Q5 ∧ ∀ v6 w7, Q5 v6 w7 →
Q v6 w7)) : bw_ri E (d + 1) mX10_defaultIn [.ref 35, .int a0] w Q := by
  refine bw_enter rfl (Nat.le_of_ble_eq_true rfl) ?_
  refine bw_aload_n (i := 0) dX10_defaultIn_0 rfl rfl ?_
  refine bw_getr (r := 18) fg_BentWords_Teller_9 rfl rfl dX10_defaultIn_1 ?_
  refine bw_getr (r := 27) fg_BentWords_Teller_72 rfl rfl dX10_defaultIn_4 ?_
  refine bw_iload_n (i := 1) dX10_defaultIn_7 rfl rfl ?_
  obtain ⟨hi1, h⟩ := h
  refine bw_iaload rfl hi1 dX10_defaultIn_8 ?_
  refine bw_istore_n (i := 2) (L' := [some (.ref 35), some (.int a0), some (.int (gw_i w 27 (a0.toNatClampNeg)))]) dX10_defaultIn_9 rfl (Nat.le_of_ble_eq_true rfl) rfl ?_
  refine bw_aload_n (i := 0) dX10_defaultIn_10 rfl rfl ?_
  refine bw_getr (r := 31) fg_BentWords_Teller_15 rfl rfl dX10_defaultIn_11 ?_
  refine bw_aload_n (i := 0) dX10_defaultIn_14 rfl rfl ?_
  refine bw_getr (r := 31) fg_BentWords_Teller_15 rfl rfl dX10_defaultIn_15 ?_
  refine bw_iload_n (i := 2) dX10_defaultIn_18 rfl rfl ?_
  obtain ⟨hc2, h⟩ := h
  refine bw_cVi (As := [.int (gw_i w 27 (a0.toNatClampNeg))]) (st := [.ref 31]) (Q' := (fun v w1 => (vX7_nounIn w (gw_i w 27 (a0.toNatClampNeg))) = v ∧ w = w1)) cv_BentWords_Teller_103 rfl rfl (fs_X7_nounIn (d := d + 0) (a0 := (gw_i w 27 (a0.toNatClampNeg))) hc2 ⟨rfl, rfl⟩) rfl rfl (Nat.le_of_ble_eq_true rfl) dX10_defaultIn_19 (fun v w1 hv => ?_)
  obtain ⟨rfl, rfl⟩ := hv
  refine bw_aload_n (i := 0) dX10_defaultIn_22 rfl rfl ?_
  refine bw_getr (r := 18) fg_BentWords_Teller_9 rfl rfl dX10_defaultIn_23 ?_
  refine bw_getr (r := 28) fg_BentWords_Teller_82 rfl rfl dX10_defaultIn_26 ?_
  refine bw_iload_n (i := 1) dX10_defaultIn_29 rfl rfl ?_
  obtain ⟨hi3, h⟩ := h
  refine bw_iaload rfl hi3 dX10_defaultIn_30 ?_
  refine bw_aload_n (i := 0) dX10_defaultIn_31 rfl rfl ?_
  refine bw_getr (r := 31) fg_BentWords_Teller_15 rfl rfl dX10_defaultIn_32 ?_
  refine bw_iload_n (i := 2) dX10_defaultIn_35 rfl rfl ?_
  obtain ⟨hc4, h⟩ := h
  refine bw_cVi (As := [.int (gw_i w 27 (a0.toNatClampNeg))]) (st := [.int (gw_i w 28 (a0.toNatClampNeg)), .int (vX7_nounIn w (gw_i w 27 (a0.toNatClampNeg))), .ref 31]) (Q' := (fun v w1 => (vX7_numberIn w (gw_i w 27 (a0.toNatClampNeg))) = v ∧ w = w1)) cv_BentWords_Teller_96 rfl rfl (fs_X7_numberIn (d := d + 0) (a0 := (gw_i w 27 (a0.toNatClampNeg))) hc4 ⟨rfl, rfl⟩) rfl rfl (Nat.le_of_ble_eq_true rfl) dX10_defaultIn_36 (fun v w1 hv => ?_)
  obtain ⟨rfl, rfl⟩ := hv
  obtain ⟨Q5, hr, h⟩ := h
  refine bw_cVi (As := [.int (vX7_nounIn w (gw_i w 27 (a0.toNatClampNeg))), .int (gw_i w 28 (a0.toNatClampNeg)), .int (vX7_numberIn w (gw_i w 27 (a0.toNatClampNeg)))]) (st := []) cv_BentWords_Teller_23 rfl rfl hr rfl rfl (Nat.le_of_ble_eq_true rfl) dX10_defaultIn_39 (fun v6 w7 hv => ?_)
  replace h := h v6 w7 hv
  clear hr
  exact bw_ireturn dX10_defaultIn_42 rfl rfl ⟨_, rfl, h⟩
theorem wfX10_putBlankBetween {E : bw_E} {d : Nat} {w : bw_W} {Q : bw_W → Prop}   (h : (((gw_i w 35 3) ≤ 0 → Q w) ∧ (¬ ((gw_i w 35 3) ≤ 0) → (∃ Q1 : bw_W → Prop, bw_rv E (d + 0) mX10_putByte [.ref 35, .int 32] w Q1 ∧ ∀ w3, Q1 w3 →
Q w3)))) : bw_rv E (d + 1) mX10_putBlankBetween [.ref 35] w Q := by
  refine bw_enter rfl (Nat.le_of_ble_eq_true rfl) ?_
  refine bw_aload_n (i := 0) dX10_putBlankBetween_0 rfl rfl ?_
  refine bw_geti fg_BentWords_Teller_119 rfl dX10_putBlankBetween_1 ?_
  refine bw_if_le (tgt := 13) dX10_putBlankBetween_4 (by decide) (fun c => ?_) (fun c => ?_)
  · replace h := h.1 (c)
    exact bw_return dX10_putBlankBetween_13 rfl ⟨rfl, h⟩
  · replace h := h.2 (c)
    refine bw_aload_n (i := 0) dX10_putBlankBetween_7 rfl rfl ?_
    refine bw_bipush (v := 32) dX10_putBlankBetween_8 (by decide) ?_
    obtain ⟨Q1, hr, h⟩ := h
    refine bw_cVv (As := [.int 32]) (st := []) cv_BentWords_Teller_157 rfl rfl hr rfl rfl (Nat.le_of_ble_eq_true rfl) dX10_putBlankBetween_10 (fun w3 hv => ?_)
    replace h := h w3 hv
    clear hr
    exact bw_return dX10_putBlankBetween_13 rfl ⟨rfl, h⟩
theorem wfX11_feed {E : bw_E} {d : Nat} {w : bw_W} {Q : Int32 → bw_W → Prop} {a0 : Int32} {a1 : Int32} {a2 : Int32} {a3 : Int32} {a4 : Int32}  (h : (∃ Q1 : Int32 → bw_W → Prop, bw_ri E (d + 0) mX9_bytesIn [.int a0] w Q1 ∧ ∀ v2 w3, Q1 v2 w3 →
(∃ Q4 : Int32 → bw_W → Prop, bw_ri E (d + 0) mX9_bytesIn [.int a1] w3 Q4 ∧ ∀ v5 w6, Q4 v5 w6 →
(∃ Q7 : Int32 → bw_W → Prop, bw_ri E (d + 0) mX9_bytesIn [.int a2] w6 Q7 ∧ ∀ v8 w9, Q7 v8 w9 →
(∃ Q10 : Int32 → bw_W → Prop, bw_ri E (d + 0) mX9_bytesIn [.int a3] w9 Q10 ∧ ∀ v11 w12, Q10 v11 w12 →
(∃ Q13 : Int32 → bw_W → Prop, bw_ri E (d + 0) mX9_bytesIn [.int a4] w12 Q13 ∧ ∀ v14 w15, Q13 v14 w15 →
((((gw_i w15 1 1) + ((((v2 + v5) + v8) + v11) + v14)) ≤ 480 → (∃ Q16 : bw_W → Prop, bw_rv E (d + 0) mX9_add [.ref 1, .int a0] w15 Q16 ∧ ∀ w18, Q16 w18 →
(∃ Q19 : bw_W → Prop, bw_rv E (d + 0) mX9_add [.ref 1, .int a1] w18 Q19 ∧ ∀ w21, Q19 w21 →
(∃ Q22 : bw_W → Prop, bw_rv E (d + 0) mX9_add [.ref 1, .int a2] w21 Q22 ∧ ∀ w24, Q22 w24 →
(∃ Q25 : bw_W → Prop, bw_rv E (d + 0) mX9_add [.ref 1, .int a3] w24 Q25 ∧ ∀ w27, Q25 w27 →
(∃ Q28 : bw_W → Prop, bw_rv E (d + 0) mX9_add [.ref 1, .int a4] w27 Q28 ∧ ∀ w30, Q28 w30 →
Q (gw_i w30 1 1) w30)))))) ∧ (¬ (((gw_i w15 1 1) + ((((v2 + v5) + v8) + v11) + v14)) ≤ 480) → Q (-1) w15)))))))) : bw_ri E (d + 1) mX11_feed [.ref 0, .int a0, .int a1, .int a2, .int a3, .int a4] w Q := by
  refine bw_enter rfl (Nat.le_of_ble_eq_true rfl) ?_
  refine bw_iload_n (i := 1) dX11_feed_0 rfl rfl ?_
  obtain ⟨Q1, hr, h⟩ := h
  refine bw_cSi (As := [.int a0]) (st := []) cs_BentWords_105 hr rfl rfl (Nat.le_of_ble_eq_true rfl) dX11_feed_1 (fun v2 w3 hv => ?_)
  replace h := h v2 w3 hv
  clear hr
  refine bw_iload_n (i := 2) dX11_feed_4 rfl rfl ?_
  obtain ⟨Q4, hr, h⟩ := h
  refine bw_cSi (As := [.int a1]) (st := [.int v2]) cs_BentWords_105 hr rfl rfl (Nat.le_of_ble_eq_true rfl) dX11_feed_5 (fun v5 w6 hv => ?_)
  replace h := h v5 w6 hv
  clear hr
  refine bw_iadd dX11_feed_8 ?_
  refine bw_iload_n (i := 3) dX11_feed_9 rfl rfl ?_
  obtain ⟨Q7, hr, h⟩ := h
  refine bw_cSi (As := [.int a2]) (st := [.int (v2 + v5)]) cs_BentWords_105 hr rfl rfl (Nat.le_of_ble_eq_true rfl) dX11_feed_10 (fun v8 w9 hv => ?_)
  replace h := h v8 w9 hv
  clear hr
  refine bw_iadd dX11_feed_13 ?_
  refine bw_iload dX11_feed_14 rfl ?_
  obtain ⟨Q10, hr, h⟩ := h
  refine bw_cSi (As := [.int a3]) (st := [.int ((v2 + v5) + v8)]) cs_BentWords_105 hr rfl rfl (Nat.le_of_ble_eq_true rfl) dX11_feed_16 (fun v11 w12 hv => ?_)
  replace h := h v11 w12 hv
  clear hr
  refine bw_iadd dX11_feed_19 ?_
  refine bw_iload dX11_feed_20 rfl ?_
  obtain ⟨Q13, hr, h⟩ := h
  refine bw_cSi (As := [.int a4]) (st := [.int (((v2 + v5) + v8) + v11)]) cs_BentWords_105 hr rfl rfl (Nat.le_of_ble_eq_true rfl) dX11_feed_22 (fun v14 w15 hv => ?_)
  replace h := h v14 w15 hv
  clear hr
  refine bw_iadd dX11_feed_25 ?_
  refine bw_istore (i := 6) (L' := [some (.ref 0), some (.int a0), some (.int a1), some (.int a2), some (.int a3), some (.int a4), some (.int ((((v2 + v5) + v8) + v11) + v14))]) dX11_feed_26 (Nat.le_of_ble_eq_true rfl) rfl ?_
  refine bw_aload_n (i := 0) dX11_feed_28 rfl rfl ?_
  refine bw_getr (r := 1) fg_BentWords_12 rfl rfl dX11_feed_29 ?_
  refine bw_geti fg_BentWords_109 rfl dX11_feed_32 ?_
  refine bw_iload dX11_feed_35 rfl ?_
  refine bw_iadd dX11_feed_37 ?_
  refine bw_sipush (v := 480) dX11_feed_38 (by decide) ?_
  refine bw_icmp_le (tgt := 46) dX11_feed_41 (by decide) (fun c => ?_) (fun c => ?_)
  · replace h := h.1 (c)
    refine bw_aload_n (i := 0) dX11_feed_46 rfl rfl ?_
    refine bw_getr (r := 1) fg_BentWords_12 rfl rfl dX11_feed_47 ?_
    refine bw_iload_n (i := 1) dX11_feed_50 rfl rfl ?_
    obtain ⟨Q16, hr, h⟩ := h
    refine bw_cVv (As := [.int a0]) (st := []) cv_BentWords_113 rfl rfl hr rfl rfl (Nat.le_of_ble_eq_true rfl) dX11_feed_51 (fun w18 hv => ?_)
    replace h := h w18 hv
    clear hr
    refine bw_aload_n (i := 0) dX11_feed_54 rfl rfl ?_
    refine bw_getr (r := 1) fg_BentWords_12 rfl rfl dX11_feed_55 ?_
    refine bw_iload_n (i := 2) dX11_feed_58 rfl rfl ?_
    obtain ⟨Q19, hr, h⟩ := h
    refine bw_cVv (As := [.int a1]) (st := []) cv_BentWords_113 rfl rfl hr rfl rfl (Nat.le_of_ble_eq_true rfl) dX11_feed_59 (fun w21 hv => ?_)
    replace h := h w21 hv
    clear hr
    refine bw_aload_n (i := 0) dX11_feed_62 rfl rfl ?_
    refine bw_getr (r := 1) fg_BentWords_12 rfl rfl dX11_feed_63 ?_
    refine bw_iload_n (i := 3) dX11_feed_66 rfl rfl ?_
    obtain ⟨Q22, hr, h⟩ := h
    refine bw_cVv (As := [.int a2]) (st := []) cv_BentWords_113 rfl rfl hr rfl rfl (Nat.le_of_ble_eq_true rfl) dX11_feed_67 (fun w24 hv => ?_)
    replace h := h w24 hv
    clear hr
    refine bw_aload_n (i := 0) dX11_feed_70 rfl rfl ?_
    refine bw_getr (r := 1) fg_BentWords_12 rfl rfl dX11_feed_71 ?_
    refine bw_iload dX11_feed_74 rfl ?_
    obtain ⟨Q25, hr, h⟩ := h
    refine bw_cVv (As := [.int a3]) (st := []) cv_BentWords_113 rfl rfl hr rfl rfl (Nat.le_of_ble_eq_true rfl) dX11_feed_76 (fun w27 hv => ?_)
    replace h := h w27 hv
    clear hr
    refine bw_aload_n (i := 0) dX11_feed_79 rfl rfl ?_
    refine bw_getr (r := 1) fg_BentWords_12 rfl rfl dX11_feed_80 ?_
    refine bw_iload dX11_feed_83 rfl ?_
    obtain ⟨Q28, hr, h⟩ := h
    refine bw_cVv (As := [.int a4]) (st := []) cv_BentWords_113 rfl rfl hr rfl rfl (Nat.le_of_ble_eq_true rfl) dX11_feed_85 (fun w30 hv => ?_)
    replace h := h w30 hv
    clear hr
    refine bw_aload_n (i := 0) dX11_feed_88 rfl rfl ?_
    refine bw_getr (r := 1) fg_BentWords_12 rfl rfl dX11_feed_89 ?_
    refine bw_geti fg_BentWords_109 rfl dX11_feed_92 ?_
    exact bw_ireturn dX11_feed_95 rfl rfl ⟨_, rfl, h⟩
  · replace h := h.2 (c)
    refine bw_iconst (v := (-1)) dX11_feed_44 (by decide) ?_
    exact bw_ireturn dX11_feed_45 rfl rfl ⟨_, rfl, h⟩
