theorem wfX12_fillsNow {E : bw_E} {d : Nat} {w : bw_W} {Q : Int32 → bw_W → Prop} {a0 : Int32} {a1 : Int32} {a2 : Int32}  (h : (vp_in (1 + (2 * a0)) 236) ∧
(vp_in ((1 + (2 * a0)) + 1) 236) ∧
(∃ Q3 : Int32 → bw_W → Prop, bw_ri E (d + 1) mX12_numberIn [.ref 50, .int a0] (sw_l (sw_l w 63 ((1 + (2 * a0)).toNatClampNeg) (a1.toInt64)) 63 (((1 + (2 * a0)) + 1).toNatClampNeg) (a2.toInt64)) Q3 ∧ ∀ v4 w5, Q3 v4 w5 →
Q v4 w5)) : bw_ri E (d + 2) mX12_fillsNow [.ref 50, .int a0, .int a1, .int a2] w Q := by
  refine bw_enter rfl (Nat.le_of_ble_eq_true rfl) ?_
  refine bw_aload_n (i := 0) dX12_fillsNow_0 rfl rfl ?_
  refine bw_getr (r := 63) fg_BentWordsModel_47 rfl rfl dX12_fillsNow_1 ?_
  refine bw_iconst (v := 1) dX12_fillsNow_4 (by decide) ?_
  refine bw_iconst (v := 2) dX12_fillsNow_5 (by decide) ?_
  refine bw_iload_n (i := 1) dX12_fillsNow_6 rfl rfl ?_
  refine bw_imul dX12_fillsNow_7 ?_
  refine bw_iadd dX12_fillsNow_8 ?_
  refine bw_iload_n (i := 2) dX12_fillsNow_9 rfl rfl ?_
  refine bw_i2l dX12_fillsNow_10 ?_
  obtain ⟨hi1, h⟩ := h
  refine bw_lastore rfl hi1 dX12_fillsNow_11 ?_
  refine bw_aload_n (i := 0) dX12_fillsNow_12 rfl rfl ?_
  refine bw_getr (r := 63) fg_BentWordsModel_47 rfl rfl dX12_fillsNow_13 ?_
  refine bw_iconst (v := 1) dX12_fillsNow_16 (by decide) ?_
  refine bw_iconst (v := 2) dX12_fillsNow_17 (by decide) ?_
  refine bw_iload_n (i := 1) dX12_fillsNow_18 rfl rfl ?_
  refine bw_imul dX12_fillsNow_19 ?_
  refine bw_iadd dX12_fillsNow_20 ?_
  refine bw_iconst (v := 1) dX12_fillsNow_21 (by decide) ?_
  refine bw_iadd dX12_fillsNow_22 ?_
  refine bw_iload_n (i := 3) dX12_fillsNow_23 rfl rfl ?_
  refine bw_i2l dX12_fillsNow_24 ?_
  obtain ⟨hi2, h⟩ := h
  refine bw_lastore rfl hi2 dX12_fillsNow_25 ?_
  refine bw_aload_n (i := 0) dX12_fillsNow_26 rfl rfl ?_
  refine bw_iload_n (i := 1) dX12_fillsNow_27 rfl rfl ?_
  obtain ⟨Q3, hr, h⟩ := h
  refine bw_cVi (As := [.int a0]) (st := []) cv_BentWordsModel_333 rfl rfl hr rfl rfl (Nat.le_of_ble_eq_true rfl) dX12_fillsNow_28 (fun v4 w5 hv => ?_)
  replace h := h v4 w5 hv
  clear hr
  exact bw_ireturn dX12_fillsNow_31 rfl rfl ⟨_, rfl, h⟩
theorem wfX12_noun {E : bw_E} {d : Nat} {w : bw_W} {Q : Int32 → bw_W → Prop} {a0 : Int32} {a1 : Int32}  (h : (∃ Q1 : Bool → bw_W → Prop, bw_rb E (d + 1) mX12_isNoun [.ref 50, .int a0] w Q1 ∧ ∀ v2 w3, Q1 v2 w3 →
((v2 = false → Q 0 (sw_i w3 50 0 1)) ∧ (v2 = true → (∃ Q4 : Bool → bw_W → Prop, bw_rb E (d + 1) mX12_in [.int a1, .int 0, .int 2] w3 Q4 ∧ ∀ v5 w6, Q4 v5 w6 →
((v5 = false → Q 0 (sw_i w6 50 0 1)) ∧ (v5 = true → ((¬ a1 = 0 → ((¬ a1 = 1 → (∃ Q7 : Int32 → bw_W → Prop, bw_ri E (d + 1) mX12_formsOf [.ref 50, .int a0] (sw_i w6 50 0 0) Q7 ∧ ∀ v8 w9, Q7 v8 w9 →
Q v8 w9)) ∧ (a1 = 1 → (vp_in a0 6) ∧
(∃ Q11 : Int32 → bw_W → Prop, bw_ri E (d + 1) mX12_lettersOf [.long (gw_l w6 65 (a0.toNatClampNeg))] (sw_i w6 50 0 0) Q11 ∧ ∀ v12 w13, Q11 v12 w13 →
Q v12 w13)))) ∧ (a1 = 0 → (vp_in a0 6) ∧
Q (gw_i w6 66 (a0.toNatClampNeg)) (sw_i w6 50 0 0)))))))))) : bw_ri E (d + 2) mX12_noun [.ref 50, .int a0, .int a1] w Q := by
  refine bw_enter rfl (Nat.le_of_ble_eq_true rfl) ?_
  refine bw_aload_n (i := 0) dX12_noun_0 rfl rfl ?_
  refine bw_aload_n (i := 0) dX12_noun_1 rfl rfl ?_
  refine bw_iload_n (i := 1) dX12_noun_2 rfl rfl ?_
  obtain ⟨Q1, hr, h⟩ := h
  refine bw_cVb (As := [.int a0]) (st := [.ref 50]) cv_BentWordsModel_376 rfl rfl hr rfl rfl (Nat.le_of_ble_eq_true rfl) dX12_noun_3 (fun v2 w3 hv => ?_)
  replace h := h v2 w3 hv
  clear hr
  refine bw_ifb_eq (tgt := 22) dX12_noun_6 (by decide) (fun c => ?_) (fun c => ?_)
  · replace h := h.1 (c)
    refine bw_iconst (v := 1) dX12_noun_22 (by decide) ?_
    refine bw_puti fp_BentWordsModel_89 rfl rfl rfl dX12_noun_23 ?_
    refine bw_aload_n (i := 0) dX12_noun_26 rfl rfl ?_
    refine bw_geti fg_BentWordsModel_89 rfl dX12_noun_27 ?_
    rw [show gw_i (sw_i w3 50 0 1) 50 0 = 1 from rfl]
    refine bw_iconst (v := 1) dX12_noun_30 (by decide) ?_
    refine bw_icmp_ne (tgt := 36) dX12_noun_31 (by decide) (fun c => absurd c (by decide)) (fun _ => ?_)
    refine bw_iconst (v := 0) dX12_noun_34 (by decide) ?_
    exact bw_ireturn dX12_noun_35 rfl rfl ⟨_, rfl, h⟩
  · replace h := h.2 (c)
    refine bw_iload_n (i := 2) dX12_noun_9 rfl rfl ?_
    refine bw_iconst (v := 0) dX12_noun_10 (by decide) ?_
    refine bw_iconst (v := 2) dX12_noun_11 (by decide) ?_
    obtain ⟨Q4, hr, h⟩ := h
    refine bw_cSb (As := [.int a1, .int 0, .int 2]) (st := [.ref 50]) cs_BentWordsModel_100 hr rfl rfl (Nat.le_of_ble_eq_true rfl) dX12_noun_12 (fun v5 w6 hv => ?_)
    replace h := h v5 w6 hv
    clear hr
    refine bw_ifb_eq (tgt := 22) dX12_noun_15 (by decide) (fun c => ?_) (fun c => ?_)
    · replace h := h.1 (c)
      refine bw_iconst (v := 1) dX12_noun_22 (by decide) ?_
      refine bw_puti fp_BentWordsModel_89 rfl rfl rfl dX12_noun_23 ?_
      refine bw_aload_n (i := 0) dX12_noun_26 rfl rfl ?_
      refine bw_geti fg_BentWordsModel_89 rfl dX12_noun_27 ?_
      rw [show gw_i (sw_i w6 50 0 1) 50 0 = 1 from rfl]
      refine bw_iconst (v := 1) dX12_noun_30 (by decide) ?_
      refine bw_icmp_ne (tgt := 36) dX12_noun_31 (by decide) (fun c => absurd c (by decide)) (fun _ => ?_)
      refine bw_iconst (v := 0) dX12_noun_34 (by decide) ?_
      exact bw_ireturn dX12_noun_35 rfl rfl ⟨_, rfl, h⟩
    · replace h := h.2 (c)
      refine bw_iconst (v := 0) dX12_noun_18 (by decide) ?_
      refine bw_goto (tgt := 23) dX12_noun_19 (by decide) ?_
      refine bw_puti fp_BentWordsModel_89 rfl rfl rfl dX12_noun_23 ?_
      refine bw_aload_n (i := 0) dX12_noun_26 rfl rfl ?_
      refine bw_geti fg_BentWordsModel_89 rfl dX12_noun_27 ?_
      rw [show gw_i (sw_i w6 50 0 0) 50 0 = 0 from rfl]
      refine bw_iconst (v := 1) dX12_noun_30 (by decide) ?_
      refine bw_icmp_ne (tgt := 36) dX12_noun_31 (by decide) (fun _ => ?_) (fun c => absurd c (by decide))
      refine bw_iload_n (i := 2) dX12_noun_36 rfl rfl ?_
      refine bw_if_ne (tgt := 49) dX12_noun_37 (by decide) (fun c => ?_) (fun c => ?_)
      · replace h := h.1 (c)
        refine bw_iload_n (i := 2) dX12_noun_49 rfl rfl ?_
        refine bw_iconst (v := 1) dX12_noun_50 (by decide) ?_
        refine bw_icmp_ne (tgt := 66) dX12_noun_51 (by decide) (fun c => ?_) (fun c => ?_)
        · replace h := h.1 (c)
          refine bw_aload_n (i := 0) dX12_noun_66 rfl rfl ?_
          refine bw_iload_n (i := 1) dX12_noun_67 rfl rfl ?_
          obtain ⟨Q7, hr, h⟩ := h
          refine bw_cVi (As := [.int a0]) (st := []) cv_BentWordsModel_395 rfl rfl hr rfl rfl (Nat.le_of_ble_eq_true rfl) dX12_noun_68 (fun v8 w9 hv => ?_)
          replace h := h v8 w9 hv
          clear hr
          exact bw_ireturn dX12_noun_71 rfl rfl ⟨_, rfl, h⟩
        · replace h := h.2 (c)
          refine bw_aload_n (i := 0) dX12_noun_54 rfl rfl ?_
          refine bw_getr (r := 65) fg_BentWordsModel_53 rfl rfl dX12_noun_55 ?_
          refine bw_iload_n (i := 1) dX12_noun_58 rfl rfl ?_
          obtain ⟨hi10, h⟩ := h
          refine bw_laload rfl hi10 dX12_noun_59 ?_
          rw [show gw_l (sw_i w6 50 0 0) 65 (a0.toNatClampNeg) = (gw_l w6 65 (a0.toNatClampNeg)) from by first | rfl | (simp [gs_ii, gs_ll, gs_il, gs_li]; done)]
          obtain ⟨Q11, hr, h⟩ := h
          refine bw_cSi (As := [.long (gw_l w6 65 (a0.toNatClampNeg))]) (st := []) cs_BentWordsModel_304 hr rfl rfl (Nat.le_of_ble_eq_true rfl) dX12_noun_60 (fun v12 w13 hv => ?_)
          replace h := h v12 w13 hv
          clear hr
          refine bw_goto (tgt := 71) dX12_noun_63 (by decide) ?_
          exact bw_ireturn dX12_noun_71 rfl rfl ⟨_, rfl, h⟩
      · replace h := h.2 (c)
        refine bw_aload_n (i := 0) dX12_noun_40 rfl rfl ?_
        refine bw_getr (r := 66) fg_BentWordsModel_56 rfl rfl dX12_noun_41 ?_
        refine bw_iload_n (i := 1) dX12_noun_44 rfl rfl ?_
        obtain ⟨hi14, h⟩ := h
        refine bw_iaload rfl hi14 dX12_noun_45 ?_
        rw [show gw_i (sw_i w6 50 0 0) 66 (a0.toNatClampNeg) = (gw_i w6 66 (a0.toNatClampNeg)) from by first | rfl | (simp [gs_ii, gs_ll, gs_il, gs_li]; done)]
        refine bw_goto (tgt := 71) dX12_noun_46 (by decide) ?_
        exact bw_ireturn dX12_noun_71 rfl rfl ⟨_, rfl, h⟩
theorem wfX12_letter {E : bw_E} {d : Nat} {w : bw_W} {Q : Int32 → bw_W → Prop} {a0 : Int64} {a1 : Int32}  (h : (∃ Q1 : Int32 → bw_W → Prop, bw_ri E (d + 1) mX12_lettersOf [.long a0] w Q1 ∧ ∀ v2 w3, Q1 v2 w3 →
((¬ a1 = (-1) → (∃ Q4 : Bool → bw_W → Prop, bw_rb E (d + 1) mX12_in [.int a1, .int 0, .int (v2 - 1)] w3 Q4 ∧ ∀ v5 w6, Q4 v5 w6 →
((v5 = false → Q (-1) w6) ∧ (v5 = true → (∃ Q7 : Int32 → bw_W → Prop, bw_ri E (d + 1) mX12_letterOf [.long a0, .int a1] w6 Q7 ∧ ∀ v8 w9, Q7 v8 w9 →
Q v8 w9))))) ∧ (a1 = (-1) → Q v2 w3)))) : bw_ri E (d + 2) mX12_letter [.long a0, .int a1] w Q := by
  refine bw_enter rfl (Nat.le_of_ble_eq_true rfl) ?_
  refine bw_lload_n (i := 0) dX12_letter_0 rfl rfl ?_
  obtain ⟨Q1, hr, h⟩ := h
  refine bw_cSi (As := [.long a0]) (st := []) cs_BentWordsModel_304 hr rfl rfl (Nat.le_of_ble_eq_true rfl) dX12_letter_1 (fun v2 w3 hv => ?_)
  replace h := h v2 w3 hv
  clear hr
  refine bw_istore_n (i := 3) (L' := [some (.long a0), none, some (.int a1), some (.int v2)]) dX12_letter_4 rfl (Nat.le_of_ble_eq_true rfl) rfl ?_
  refine bw_iload_n (i := 2) dX12_letter_5 rfl rfl ?_
  refine bw_iconst (v := (-1)) dX12_letter_6 (by decide) ?_
  refine bw_icmp_ne (tgt := 14) dX12_letter_7 (by decide) (fun c => ?_) (fun c => ?_)
  · replace h := h.1 (c)
    refine bw_iload_n (i := 2) dX12_letter_14 rfl rfl ?_
    refine bw_iconst (v := 0) dX12_letter_15 (by decide) ?_
    refine bw_iload_n (i := 3) dX12_letter_16 rfl rfl ?_
    refine bw_iconst (v := 1) dX12_letter_17 (by decide) ?_
    refine bw_isub dX12_letter_18 ?_
    obtain ⟨Q4, hr, h⟩ := h
    refine bw_cSb (As := [.int a1, .int 0, .int (v2 - 1)]) (st := []) cs_BentWordsModel_100 hr rfl rfl (Nat.le_of_ble_eq_true rfl) dX12_letter_19 (fun v5 w6 hv => ?_)
    replace h := h v5 w6 hv
    clear hr
    refine bw_ifb_eq (tgt := 33) dX12_letter_22 (by decide) (fun c => ?_) (fun c => ?_)
    · replace h := h.1 (c)
      refine bw_iconst (v := (-1)) dX12_letter_33 (by decide) ?_
      exact bw_ireturn dX12_letter_34 rfl rfl ⟨_, rfl, h⟩
    · replace h := h.2 (c)
      refine bw_lload_n (i := 0) dX12_letter_25 rfl rfl ?_
      refine bw_iload_n (i := 2) dX12_letter_26 rfl rfl ?_
      obtain ⟨Q7, hr, h⟩ := h
      refine bw_cSi (As := [.long a0, .int a1]) (st := []) cs_BentWordsModel_317 hr rfl rfl (Nat.le_of_ble_eq_true rfl) dX12_letter_27 (fun v8 w9 hv => ?_)
      replace h := h v8 w9 hv
      clear hr
      refine bw_goto (tgt := 34) dX12_letter_30 (by decide) ?_
      exact bw_ireturn dX12_letter_34 rfl rfl ⟨_, rfl, h⟩
  · replace h := h.2 (c)
    refine bw_iload_n (i := 3) dX12_letter_10 rfl rfl ?_
    refine bw_goto (tgt := 34) dX12_letter_11 (by decide) ?_
    exact bw_ireturn dX12_letter_34 rfl rfl ⟨_, rfl, h⟩
theorem wfX12_hole {E : bw_E} {d : Nat} {w : bw_W} {Q : Int32 → bw_W → Prop} {a0 : Int32} {a1 : Int32}  (h : (∃ Q1 : Bool → bw_W → Prop, bw_rb E (d + 1) mX12_isHole [.ref 50, .int a0] w Q1 ∧ ∀ v2 w3, Q1 v2 w3 →
((v2 = false → Q (-1) w3) ∧ (v2 = true → (∃ Q4 : Bool → bw_W → Prop, bw_rb E (d + 1) mX12_in [.int a1, .int 0, .int 2] w3 Q4 ∧ ∀ v5 w6, Q4 v5 w6 →
((v5 = false → Q (-1) w6) ∧ (v5 = true → (∃ Q7 : Int32 → bw_W → Prop, bw_ri E (d + 1) mX12_nounIn [.ref 50, .int a0] w6 Q7 ∧ ∀ v8 w9, Q7 v8 w9 →
((¬ v8 = (-1) → ((¬ a1 = 0 → ((¬ a1 = 1 → (∃ Q10 : Int32 → bw_W → Prop, bw_ri E (d + 1) mX12_numberIn [.ref 50, .int a0] w9 Q10 ∧ ∀ v11 w12, Q10 v11 w12 →
Q v11 w12)) ∧ (a1 = 1 → (∃ Q13 : Int32 → bw_W → Prop, bw_ri E (d + 1) mX12_countIn [.ref 50, .int a0] w9 Q13 ∧ ∀ v14 w15, Q13 v14 w15 →
Q v14 w15)))) ∧ (a1 = 0 → (∃ Q16 : Int32 → bw_W → Prop, bw_ri E (d + 1) mX12_nounIn [.ref 50, .int a0] w9 Q16 ∧ ∀ v17 w18, Q16 v17 w18 →
Q v17 w18)))) ∧ (v8 = (-1) → Q (-1) w9)))))))))) : bw_ri E (d + 2) mX12_hole [.ref 50, .int a0, .int a1] w Q := by
  refine bw_enter rfl (Nat.le_of_ble_eq_true rfl) ?_
  refine bw_aload_n (i := 0) dX12_hole_0 rfl rfl ?_
  refine bw_iload_n (i := 1) dX12_hole_1 rfl rfl ?_
  obtain ⟨Q1, hr, h⟩ := h
  refine bw_cVb (As := [.int a0]) (st := []) cv_BentWordsModel_373 rfl rfl hr rfl rfl (Nat.le_of_ble_eq_true rfl) dX12_hole_2 (fun v2 w3 hv => ?_)
  replace h := h v2 w3 hv
  clear hr
  refine bw_ifb_eq (tgt := 26) dX12_hole_5 (by decide) (fun c => ?_) (fun c => ?_)
  · replace h := h.1 (c)
    refine bw_iconst (v := (-1)) dX12_hole_26 (by decide) ?_
    exact bw_ireturn dX12_hole_27 rfl rfl ⟨_, rfl, h⟩
  · replace h := h.2 (c)
    refine bw_iload_n (i := 2) dX12_hole_8 rfl rfl ?_
    refine bw_iconst (v := 0) dX12_hole_9 (by decide) ?_
    refine bw_iconst (v := 2) dX12_hole_10 (by decide) ?_
    obtain ⟨Q4, hr, h⟩ := h
    refine bw_cSb (As := [.int a1, .int 0, .int 2]) (st := []) cs_BentWordsModel_100 hr rfl rfl (Nat.le_of_ble_eq_true rfl) dX12_hole_11 (fun v5 w6 hv => ?_)
    replace h := h v5 w6 hv
    clear hr
    refine bw_ifb_eq (tgt := 26) dX12_hole_14 (by decide) (fun c => ?_) (fun c => ?_)
    · replace h := h.1 (c)
      refine bw_iconst (v := (-1)) dX12_hole_26 (by decide) ?_
      exact bw_ireturn dX12_hole_27 rfl rfl ⟨_, rfl, h⟩
    · replace h := h.2 (c)
      refine bw_aload_n (i := 0) dX12_hole_17 rfl rfl ?_
      refine bw_iload_n (i := 1) dX12_hole_18 rfl rfl ?_
      obtain ⟨Q7, hr, h⟩ := h
      refine bw_cVi (As := [.int a0]) (st := []) cv_BentWordsModel_330 rfl rfl hr rfl rfl (Nat.le_of_ble_eq_true rfl) dX12_hole_19 (fun v8 w9 hv => ?_)
      replace h := h v8 w9 hv
      clear hr
      refine bw_iconst (v := (-1)) dX12_hole_22 (by decide) ?_
      refine bw_icmp_ne (tgt := 28) dX12_hole_23 (by decide) (fun c => ?_) (fun c => ?_)
      · replace h := h.1 (c)
        refine bw_iload_n (i := 2) dX12_hole_28 rfl rfl ?_
        refine bw_if_ne (tgt := 40) dX12_hole_29 (by decide) (fun c => ?_) (fun c => ?_)
        · replace h := h.1 (c)
          refine bw_iload_n (i := 2) dX12_hole_40 rfl rfl ?_
          refine bw_iconst (v := 1) dX12_hole_41 (by decide) ?_
          refine bw_icmp_ne (tgt := 53) dX12_hole_42 (by decide) (fun c => ?_) (fun c => ?_)
          · replace h := h.1 (c)
            refine bw_aload_n (i := 0) dX12_hole_53 rfl rfl ?_
            refine bw_iload_n (i := 1) dX12_hole_54 rfl rfl ?_
            obtain ⟨Q10, hr, h⟩ := h
            refine bw_cVi (As := [.int a0]) (st := []) cv_BentWordsModel_333 rfl rfl hr rfl rfl (Nat.le_of_ble_eq_true rfl) dX12_hole_55 (fun v11 w12 hv => ?_)
            replace h := h v11 w12 hv
            clear hr
            exact bw_ireturn dX12_hole_58 rfl rfl ⟨_, rfl, h⟩
          · replace h := h.2 (c)
            refine bw_aload_n (i := 0) dX12_hole_45 rfl rfl ?_
            refine bw_iload_n (i := 1) dX12_hole_46 rfl rfl ?_
            obtain ⟨Q13, hr, h⟩ := h
            refine bw_cVi (As := [.int a0]) (st := []) cv_BentWordsModel_278 rfl rfl hr rfl rfl (Nat.le_of_ble_eq_true rfl) dX12_hole_47 (fun v14 w15 hv => ?_)
            replace h := h v14 w15 hv
            clear hr
            refine bw_goto (tgt := 58) dX12_hole_50 (by decide) ?_
            exact bw_ireturn dX12_hole_58 rfl rfl ⟨_, rfl, h⟩
        · replace h := h.2 (c)
          refine bw_aload_n (i := 0) dX12_hole_32 rfl rfl ?_
          refine bw_iload_n (i := 1) dX12_hole_33 rfl rfl ?_
          obtain ⟨Q16, hr, h⟩ := h
          refine bw_cVi (As := [.int a0]) (st := []) cv_BentWordsModel_330 rfl rfl hr rfl rfl (Nat.le_of_ble_eq_true rfl) dX12_hole_34 (fun v17 w18 hv => ?_)
          replace h := h v17 w18 hv
          clear hr
          refine bw_goto (tgt := 58) dX12_hole_37 (by decide) ?_
          exact bw_ireturn dX12_hole_58 rfl rfl ⟨_, rfl, h⟩
      · replace h := h.2 (c)
        refine bw_iconst (v := (-1)) dX12_hole_26 (by decide) ?_
        exact bw_ireturn dX12_hole_27 rfl rfl ⟨_, rfl, h⟩
theorem wfX12_bare_14 {E : bw_E} {d : Nat} {w : bw_W} {Q : Int32 → bw_W → Prop} {l1 : Int32} {l2 : Int32} {l3 : Int32}  (h : ((8 ≤ l3 → Q l2 w) ∧ (¬ (8 ≤ l3) → (vp_in ((7 + (8 * l1)) + l3) 236) ∧
((¬ (gw_l w 63 (((7 + (8 * l1)) + l3).toNatClampNeg)) = 0 → bw_G E (d + 2) mX12_bare 14 [some (.ref 50), some (.int l1), some (.int (l2 ||| 0)), some (.int (l3 + 1))] [] w (bw_qi Q)) ∧ ((gw_l w 63 (((7 + (8 * l1)) + l3).toNatClampNeg)) = 0 → bw_G E (d + 2) mX12_bare 14 [some (.ref 50), some (.int l1), some (.int (l2 ||| ((1 : Int32) <<< (l3 &&& 31)))), some (.int (l3 + 1))] [] w (bw_qi Q)))))) : bw_G E (d + 2) mX12_bare 14 [some (.ref 50), some (.int l1), some (.int l2), some (.int l3)] [] w (bw_qi Q) := by
  refine bw_iload_n (i := 3) dX12_bare_14 rfl rfl ?_
  refine bw_bipush (v := 8) dX12_bare_15 (by decide) ?_
  refine bw_icmp_ge (tgt := 55) dX12_bare_17 (by decide) (fun c => ?_) (fun c => ?_)
  · replace h := h.1 (c)
    refine bw_iload_n (i := 2) dX12_bare_55 rfl rfl ?_
    exact bw_ireturn dX12_bare_56 rfl rfl ⟨_, rfl, h⟩
  · replace h := h.2 (c)
    refine bw_iload_n (i := 2) dX12_bare_20 rfl rfl ?_
    refine bw_aload_n (i := 0) dX12_bare_21 rfl rfl ?_
    refine bw_getr (r := 63) fg_BentWordsModel_47 rfl rfl dX12_bare_22 ?_
    refine bw_bipush (v := 7) dX12_bare_25 (by decide) ?_
    refine bw_bipush (v := 8) dX12_bare_27 (by decide) ?_
    refine bw_iload_n (i := 1) dX12_bare_29 rfl rfl ?_
    refine bw_imul dX12_bare_30 ?_
    refine bw_iadd dX12_bare_31 ?_
    refine bw_iload_n (i := 3) dX12_bare_32 rfl rfl ?_
    refine bw_iadd dX12_bare_33 ?_
    obtain ⟨hi1, h⟩ := h
    refine bw_laload rfl hi1 dX12_bare_34 ?_
    refine bw_lconst (v := 0) dX12_bare_35 rfl ?_
    refine bw_lcmp_ne (tgt := 46) dX12_bare_36 dX12_bare_37 (by decide) (fun c => ?_) (fun c => ?_)
    · replace h := h.1 (c)
      refine bw_iconst (v := 0) dX12_bare_46 (by decide) ?_
      refine bw_ior dX12_bare_47 ?_
      refine bw_istore_n (i := 2) (L' := [some (.ref 50), some (.int l1), some (.int (l2 ||| 0)), some (.int l3)]) dX12_bare_48 rfl (Nat.le_of_ble_eq_true rfl) rfl ?_
      refine bw_iinc (i := 3) (x := l3) (v := (l3 + 1)) (L' := [some (.ref 50), some (.int l1), some (.int (l2 ||| 0)), some (.int (l3 + 1))]) dX12_bare_49 rfl rfl (Nat.le_of_ble_eq_true rfl) rfl ?_
      refine bw_goto (tgt := 14) dX12_bare_52 (by decide) ?_
      exact h
    · replace h := h.2 (c)
      refine bw_iconst (v := 1) dX12_bare_40 (by decide) ?_
      refine bw_iload_n (i := 3) dX12_bare_41 rfl rfl ?_
      refine bw_ishl dX12_bare_42 ?_
      refine bw_goto (tgt := 47) dX12_bare_43 (by decide) ?_
      refine bw_ior dX12_bare_47 ?_
      refine bw_istore_n (i := 2) (L' := [some (.ref 50), some (.int l1), some (.int (l2 ||| ((1 : Int32) <<< (l3 &&& 31)))), some (.int l3)]) dX12_bare_48 rfl (Nat.le_of_ble_eq_true rfl) rfl ?_
      refine bw_iinc (i := 3) (x := l3) (v := (l3 + 1)) (L' := [some (.ref 50), some (.int l1), some (.int (l2 ||| ((1 : Int32) <<< (l3 &&& 31)))), some (.int (l3 + 1))]) dX12_bare_49 rfl rfl (Nat.le_of_ble_eq_true rfl) rfl ?_
      refine bw_goto (tgt := 14) dX12_bare_52 (by decide) ?_
      exact h
theorem wfX12_bare {E : bw_E} {d : Nat} {w : bw_W} {Q : Int32 → bw_W → Prop} {a0 : Int32}  (h : (∃ Q1 : Bool → bw_W → Prop, bw_rb E (d + 1) mX12_isNoun [.ref 50, .int a0] w Q1 ∧ ∀ v2 w3, Q1 v2 w3 →
((v2 = true → bw_G E (d + 2) mX12_bare 14 [some (.ref 50), some (.int a0), some (.int 0), some (.int 0)] [] w3 (bw_qi Q)) ∧ (v2 = false → Q (-1) w3)))) : bw_ri E (d + 2) mX12_bare [.ref 50, .int a0] w Q := by
  refine bw_enter rfl (Nat.le_of_ble_eq_true rfl) ?_
  refine bw_aload_n (i := 0) dX12_bare_0 rfl rfl ?_
  refine bw_iload_n (i := 1) dX12_bare_1 rfl rfl ?_
  obtain ⟨Q1, hr, h⟩ := h
  refine bw_cVb (As := [.int a0]) (st := []) cv_BentWordsModel_376 rfl rfl hr rfl rfl (Nat.le_of_ble_eq_true rfl) dX12_bare_2 (fun v2 w3 hv => ?_)
  replace h := h v2 w3 hv
  clear hr
  refine bw_ifb_ne (tgt := 10) dX12_bare_5 (by decide) (fun c => ?_) (fun c => ?_)
  · replace h := h.1 (c)
    refine bw_iconst (v := 0) dX12_bare_10 (by decide) ?_
    refine bw_istore_n (i := 2) (L' := [some (.ref 50), some (.int a0), some (.int 0), none]) dX12_bare_11 rfl (Nat.le_of_ble_eq_true rfl) rfl ?_
    refine bw_iconst (v := 0) dX12_bare_12 (by decide) ?_
    refine bw_istore_n (i := 3) (L' := [some (.ref 50), some (.int a0), some (.int 0), some (.int 0)]) dX12_bare_13 rfl (Nat.le_of_ble_eq_true rfl) rfl ?_
    exact h
  · replace h := h.2 (c)
    refine bw_iconst (v := (-1)) dX12_bare_8 (by decide) ?_
    exact bw_ireturn dX12_bare_9 rfl rfl ⟨_, rfl, h⟩
theorem wfX12_needs_17 {E : bw_E} {d : Nat} {w : bw_W} {Q : Int32 → bw_W → Prop} {l1 : Int32} {l2 : Int32} {l3 : Int32}  (h : (vp_in l1 4) ∧
((((8 * l1) + (gw_i w 68 (l1.toNatClampNeg))) ≤ l3 → bw_G E (d + 2) mX12_needs 70 [some (.ref 50), some (.int l1), some (.int l2), some (.int 0), some (.int 0), none] [] w (bw_qi Q)) ∧ (¬ (((8 * l1) + (gw_i w 68 (l1.toNatClampNeg))) ≤ l3) → (∃ Q2 : Bool → bw_W → Prop, bw_rb E (d + 1) mX12_isFormItem [.ref 50, .int l3] w Q2 ∧ ∀ v3 w4, Q2 v3 w4 →
((v3 = false → bw_G E (d + 2) mX12_needs 17 [some (.ref 50), some (.int l1), some (.int (l2 ||| 0)), some (.int (l3 + 1)), none, none] [] w4 (bw_qi Q)) ∧ (v3 = true → (vp_in ((3 * l3) + 2) 96) ∧
bw_G E (d + 2) mX12_needs 17 [some (.ref 50), some (.int l1), some (.int (l2 ||| ((1 : Int32) <<< ((gw_i w4 69 (((3 * l3) + 2).toNatClampNeg)) &&& 31)))), some (.int (l3 + 1)), none, none] [] w4 (bw_qi Q))))))) : bw_G E (d + 2) mX12_needs 17 [some (.ref 50), some (.int l1), some (.int l2), some (.int l3), none, none] [] w (bw_qi Q) := by
  refine bw_iload_n (i := 3) dX12_needs_17 rfl rfl ?_
  refine bw_bipush (v := 8) dX12_needs_18 (by decide) ?_
  refine bw_iload_n (i := 1) dX12_needs_20 rfl rfl ?_
  refine bw_imul dX12_needs_21 ?_
  refine bw_aload_n (i := 0) dX12_needs_22 rfl rfl ?_
  refine bw_getr (r := 68) fg_BentWordsModel_62 rfl rfl dX12_needs_23 ?_
  refine bw_iload_n (i := 1) dX12_needs_26 rfl rfl ?_
  obtain ⟨hi1, h⟩ := h
  refine bw_iaload rfl hi1 dX12_needs_27 ?_
  refine bw_iadd dX12_needs_28 ?_
  refine bw_icmp_ge (tgt := 65) dX12_needs_29 (by decide) (fun c => ?_) (fun c => ?_)
  · replace h := h.1 (c)
    refine bw_iconst (v := 0) dX12_needs_65 (by decide) ?_
    refine bw_istore_n (i := 3) (L' := [some (.ref 50), some (.int l1), some (.int l2), some (.int 0), none, none]) dX12_needs_66 rfl (Nat.le_of_ble_eq_true rfl) rfl ?_
    refine bw_iconst (v := 0) dX12_needs_67 (by decide) ?_
    refine bw_istore (i := 4) (L' := [some (.ref 50), some (.int l1), some (.int l2), some (.int 0), some (.int 0), none]) dX12_needs_68 (Nat.le_of_ble_eq_true rfl) rfl ?_
    exact h
  · replace h := h.2 (c)
    refine bw_iload_n (i := 2) dX12_needs_32 rfl rfl ?_
    refine bw_aload_n (i := 0) dX12_needs_33 rfl rfl ?_
    refine bw_iload_n (i := 3) dX12_needs_34 rfl rfl ?_
    obtain ⟨Q2, hr, h⟩ := h
    refine bw_cVb (As := [.int l3]) (st := [.int l2]) cv_BentWordsModel_459 rfl rfl hr rfl rfl (Nat.le_of_ble_eq_true rfl) dX12_needs_35 (fun v3 w4 hv => ?_)
    replace h := h v3 w4 hv
    clear hr
    refine bw_ifb_eq (tgt := 56) dX12_needs_38 (by decide) (fun c => ?_) (fun c => ?_)
    · replace h := h.1 (c)
      refine bw_iconst (v := 0) dX12_needs_56 (by decide) ?_
      refine bw_ior dX12_needs_57 ?_
      refine bw_istore_n (i := 2) (L' := [some (.ref 50), some (.int l1), some (.int (l2 ||| 0)), some (.int l3), none, none]) dX12_needs_58 rfl (Nat.le_of_ble_eq_true rfl) rfl ?_
      refine bw_iinc (i := 3) (x := l3) (v := (l3 + 1)) (L' := [some (.ref 50), some (.int l1), some (.int (l2 ||| 0)), some (.int (l3 + 1)), none, none]) dX12_needs_59 rfl rfl (Nat.le_of_ble_eq_true rfl) rfl ?_
      refine bw_goto (tgt := 17) dX12_needs_62 (by decide) ?_
      exact h
    · replace h := h.2 (c)
      refine bw_iconst (v := 1) dX12_needs_41 (by decide) ?_
      refine bw_aload_n (i := 0) dX12_needs_42 rfl rfl ?_
      refine bw_getr (r := 69) fg_BentWordsModel_65 rfl rfl dX12_needs_43 ?_
      refine bw_iconst (v := 3) dX12_needs_46 (by decide) ?_
      refine bw_iload_n (i := 3) dX12_needs_47 rfl rfl ?_
      refine bw_imul dX12_needs_48 ?_
      refine bw_iconst (v := 2) dX12_needs_49 (by decide) ?_
      refine bw_iadd dX12_needs_50 ?_
      obtain ⟨hi5, h⟩ := h
      refine bw_iaload rfl hi5 dX12_needs_51 ?_
      refine bw_ishl dX12_needs_52 ?_
      refine bw_goto (tgt := 57) dX12_needs_53 (by decide) ?_
      refine bw_ior dX12_needs_57 ?_
      refine bw_istore_n (i := 2) (L' := [some (.ref 50), some (.int l1), some (.int (l2 ||| ((1 : Int32) <<< ((gw_i w4 69 (((3 * l3) + 2).toNatClampNeg)) &&& 31)))), some (.int l3), none, none]) dX12_needs_58 rfl (Nat.le_of_ble_eq_true rfl) rfl ?_
      refine bw_iinc (i := 3) (x := l3) (v := (l3 + 1)) (L' := [some (.ref 50), some (.int l1), some (.int (l2 ||| ((1 : Int32) <<< ((gw_i w4 69 (((3 * l3) + 2).toNatClampNeg)) &&& 31)))), some (.int (l3 + 1)), none, none]) dX12_needs_59 rfl rfl (Nat.le_of_ble_eq_true rfl) rfl ?_
      refine bw_goto (tgt := 17) dX12_needs_62 (by decide) ?_
      exact h
theorem wfX12_needs_70 {E : bw_E} {d : Nat} {w : bw_W} {Q : Int32 → bw_W → Prop} {l1 : Int32} {l2 : Int32} {l3 : Int32} {l4 : Int32}  (h : (((gw_i w 50 34) ≤ l4 → Q l3 w) ∧ (¬ ((gw_i w 50 34) ≤ l4) → bw_G E (d + 2) mX12_needs 82 [some (.ref 50), some (.int l1), some (.int l2), some (.int l3), some (.int l4), some (.int 0)] [] w (bw_qi Q)))) : bw_G E (d + 2) mX12_needs 70 [some (.ref 50), some (.int l1), some (.int l2), some (.int l3), some (.int l4), none] [] w (bw_qi Q) := by
  refine bw_iload dX12_needs_70 rfl ?_
  refine bw_aload_n (i := 0) dX12_needs_72 rfl rfl ?_
  refine bw_geti fg_BentWordsModel_269 rfl dX12_needs_73 ?_
  refine bw_icmp_ge (tgt := 141) dX12_needs_76 (by decide) (fun c => ?_) (fun c => ?_)
  · replace h := h.1 (c)
    refine bw_iload_n (i := 3) dX12_needs_141 rfl rfl ?_
    exact bw_ireturn dX12_needs_142 rfl rfl ⟨_, rfl, h⟩
  · replace h := h.2 (c)
    refine bw_iconst (v := 0) dX12_needs_79 (by decide) ?_
    refine bw_istore (i := 5) (L' := [some (.ref 50), some (.int l1), some (.int l2), some (.int l3), some (.int l4), some (.int 0)]) dX12_needs_80 (Nat.le_of_ble_eq_true rfl) rfl ?_
    exact h
theorem wfX12_needs_82 {E : bw_E} {d : Nat} {w : bw_W} {Q : Int32 → bw_W → Prop} {l1 : Int32} {l2 : Int32} {l3 : Int32} {l4 : Int32} {l5 : Int32}  (h : ((8 ≤ l5 → bw_G E (d + 2) mX12_needs 70 [some (.ref 50), some (.int l1), some (.int l2), some (.int l3), some (.int (l4 + 1)), none] [] w (bw_qi Q)) ∧ (¬ (8 ≤ l5) → (∃ Q1 : Bool → bw_W → Prop, bw_rb E (d + 1) mX12_has [.int l2, .int (l5 / 2)] w Q1 ∧ ∀ v2 w3, Q1 v2 w3 →
((v2 = false → bw_G E (d + 2) mX12_needs 82 [some (.ref 50), some (.int l1), some (.int l2), some (.int (l3 + 0)), some (.int l4), some (.int (l5 + 1))] [] w3 (bw_qi Q)) ∧ (v2 = true → (vp_in ((7 + (8 * l4)) + l5) 236) ∧
((¬ (gw_l w3 63 (((7 + (8 * l4)) + l5).toNatClampNeg)) = 0 → bw_G E (d + 2) mX12_needs 82 [some (.ref 50), some (.int l1), some (.int l2), some (.int (l3 + 0)), some (.int l4), some (.int (l5 + 1))] [] w3 (bw_qi Q)) ∧ ((gw_l w3 63 (((7 + (8 * l4)) + l5).toNatClampNeg)) = 0 → bw_G E (d + 2) mX12_needs 82 [some (.ref 50), some (.int l1), some (.int l2), some (.int (l3 + 1)), some (.int l4), some (.int (l5 + 1))] [] w3 (bw_qi Q))))))))) : bw_G E (d + 2) mX12_needs 82 [some (.ref 50), some (.int l1), some (.int l2), some (.int l3), some (.int l4), some (.int l5)] [] w (bw_qi Q) := by
  refine bw_iload dX12_needs_82 rfl ?_
  refine bw_bipush (v := 8) dX12_needs_84 (by decide) ?_
  refine bw_icmp_ge (tgt := 135) dX12_needs_86 (by decide) (fun c => ?_) (fun c => ?_)
  · replace h := h.1 (c)
    refine bw_iinc (i := 4) (x := l4) (v := (l4 + 1)) (L' := [some (.ref 50), some (.int l1), some (.int l2), some (.int l3), some (.int (l4 + 1)), some (.int l5)]) dX12_needs_135 rfl rfl (Nat.le_of_ble_eq_true rfl) rfl ?_
    refine bw_goto (tgt := 70) dX12_needs_138 (by decide) ?_
    exact bw_wk [5] rfl h
  · replace h := h.2 (c)
    refine bw_iload_n (i := 3) dX12_needs_89 rfl rfl ?_
    refine bw_iload_n (i := 2) dX12_needs_90 rfl rfl ?_
    refine bw_iload dX12_needs_91 rfl ?_
    refine bw_iconst (v := 2) dX12_needs_93 (by decide) ?_
    refine bw_idiv dX12_needs_94 (by decide) ?_
    obtain ⟨Q1, hr, h⟩ := h
    refine bw_cSb (As := [.int l2, .int (l5 / 2)]) (st := [.int l3]) cs_BentWordsModel_471 hr rfl rfl (Nat.le_of_ble_eq_true rfl) dX12_needs_95 (fun v2 w3 hv => ?_)
    replace h := h v2 w3 hv
    clear hr
    refine bw_ifb_eq (tgt := 126) dX12_needs_98 (by decide) (fun c => ?_) (fun c => ?_)
    · replace h := h.1 (c)
      refine bw_iconst (v := 0) dX12_needs_126 (by decide) ?_
      refine bw_iadd dX12_needs_127 ?_
      refine bw_istore_n (i := 3) (L' := [some (.ref 50), some (.int l1), some (.int l2), some (.int (l3 + 0)), some (.int l4), some (.int l5)]) dX12_needs_128 rfl (Nat.le_of_ble_eq_true rfl) rfl ?_
      refine bw_iinc (i := 5) (x := l5) (v := (l5 + 1)) (L' := [some (.ref 50), some (.int l1), some (.int l2), some (.int (l3 + 0)), some (.int l4), some (.int (l5 + 1))]) dX12_needs_129 rfl rfl (Nat.le_of_ble_eq_true rfl) rfl ?_
      refine bw_goto (tgt := 82) dX12_needs_132 (by decide) ?_
      exact h
    · replace h := h.2 (c)
      refine bw_aload_n (i := 0) dX12_needs_101 rfl rfl ?_
      refine bw_getr (r := 63) fg_BentWordsModel_47 rfl rfl dX12_needs_102 ?_
      refine bw_bipush (v := 7) dX12_needs_105 (by decide) ?_
      refine bw_bipush (v := 8) dX12_needs_107 (by decide) ?_
      refine bw_iload dX12_needs_109 rfl ?_
      refine bw_imul dX12_needs_111 ?_
      refine bw_iadd dX12_needs_112 ?_
      refine bw_iload dX12_needs_113 rfl ?_
      refine bw_iadd dX12_needs_115 ?_
      obtain ⟨hi4, h⟩ := h
      refine bw_laload rfl hi4 dX12_needs_116 ?_
      refine bw_lconst (v := 0) dX12_needs_117 rfl ?_
      refine bw_lcmp_ne (tgt := 126) dX12_needs_118 dX12_needs_119 (by decide) (fun c => ?_) (fun c => ?_)
      · replace h := h.1 (c)
        refine bw_iconst (v := 0) dX12_needs_126 (by decide) ?_
        refine bw_iadd dX12_needs_127 ?_
        refine bw_istore_n (i := 3) (L' := [some (.ref 50), some (.int l1), some (.int l2), some (.int (l3 + 0)), some (.int l4), some (.int l5)]) dX12_needs_128 rfl (Nat.le_of_ble_eq_true rfl) rfl ?_
        refine bw_iinc (i := 5) (x := l5) (v := (l5 + 1)) (L' := [some (.ref 50), some (.int l1), some (.int l2), some (.int (l3 + 0)), some (.int l4), some (.int (l5 + 1))]) dX12_needs_129 rfl rfl (Nat.le_of_ble_eq_true rfl) rfl ?_
        refine bw_goto (tgt := 82) dX12_needs_132 (by decide) ?_
        exact h
      · replace h := h.2 (c)
        refine bw_iconst (v := 1) dX12_needs_122 (by decide) ?_
        refine bw_goto (tgt := 127) dX12_needs_123 (by decide) ?_
        refine bw_iadd dX12_needs_127 ?_
        refine bw_istore_n (i := 3) (L' := [some (.ref 50), some (.int l1), some (.int l2), some (.int (l3 + 1)), some (.int l4), some (.int l5)]) dX12_needs_128 rfl (Nat.le_of_ble_eq_true rfl) rfl ?_
        refine bw_iinc (i := 5) (x := l5) (v := (l5 + 1)) (L' := [some (.ref 50), some (.int l1), some (.int l2), some (.int (l3 + 1)), some (.int l4), some (.int (l5 + 1))]) dX12_needs_129 rfl rfl (Nat.le_of_ble_eq_true rfl) rfl ?_
        refine bw_goto (tgt := 82) dX12_needs_132 (by decide) ?_
        exact h
theorem wfX12_needs {E : bw_E} {d : Nat} {w : bw_W} {Q : Int32 → bw_W → Prop} {a0 : Int32}  (h : (∃ Q1 : Bool → bw_W → Prop, bw_rb E (d + 1) mX12_isMessage [.ref 50, .int a0] w Q1 ∧ ∀ v2 w3, Q1 v2 w3 →
((v2 = true → bw_G E (d + 2) mX12_needs 17 [some (.ref 50), some (.int a0), some (.int 0), some (.int (8 * a0)), none, none] [] w3 (bw_qi Q)) ∧ (v2 = false → Q (-1) w3)))) : bw_ri E (d + 2) mX12_needs [.ref 50, .int a0] w Q := by
  refine bw_enter rfl (Nat.le_of_ble_eq_true rfl) ?_
  refine bw_aload_n (i := 0) dX12_needs_0 rfl rfl ?_
  refine bw_iload_n (i := 1) dX12_needs_1 rfl rfl ?_
  obtain ⟨Q1, hr, h⟩ := h
  refine bw_cVb (As := [.int a0]) (st := []) cv_BentWordsModel_453 rfl rfl hr rfl rfl (Nat.le_of_ble_eq_true rfl) dX12_needs_2 (fun v2 w3 hv => ?_)
  replace h := h v2 w3 hv
  clear hr
  refine bw_ifb_ne (tgt := 10) dX12_needs_5 (by decide) (fun c => ?_) (fun c => ?_)
  · replace h := h.1 (c)
    refine bw_iconst (v := 0) dX12_needs_10 (by decide) ?_
    refine bw_istore_n (i := 2) (L' := [some (.ref 50), some (.int a0), some (.int 0), none, none, none]) dX12_needs_11 rfl (Nat.le_of_ble_eq_true rfl) rfl ?_
    refine bw_bipush (v := 8) dX12_needs_12 (by decide) ?_
    refine bw_iload_n (i := 1) dX12_needs_14 rfl rfl ?_
    refine bw_imul dX12_needs_15 ?_
    refine bw_istore_n (i := 3) (L' := [some (.ref 50), some (.int a0), some (.int 0), some (.int (8 * a0)), none, none]) dX12_needs_16 rfl (Nat.le_of_ble_eq_true rfl) rfl ?_
    exact h
  · replace h := h.2 (c)
    refine bw_iconst (v := (-1)) dX12_needs_8 (by decide) ?_
    exact bw_ireturn dX12_needs_9 rfl rfl ⟨_, rfl, h⟩
theorem wfX12_step {E : bw_E} {d : Nat} {w : bw_W} {Q : Int32 → bw_W → Prop} {a0 : Int32} {a1 : Int32} {a2 : Int32}  (h : (∃ Q1 : Bool → bw_W → Prop, bw_rb E (d + 1) mX12_isScript [.ref 50, .int a0] w Q1 ∧ ∀ v2 w3, Q1 v2 w3 →
((v2 = false → Q (-1000000) w3) ∧ (v2 = true → (vp_in a0 5) ∧
(∃ Q5 : Bool → bw_W → Prop, bw_rb E (d + 1) mX12_in [.int a1, .int 0, .int ((gw_i w3 62 (a0.toNatClampNeg)) - 1)] w3 Q5 ∧ ∀ v6 w7, Q5 v6 w7 →
((v6 = false → Q (-1000000) w7) ∧ (v6 = true → (∃ Q8 : Bool → bw_W → Prop, bw_rb E (d + 1) mX12_in [.int a2, .int 0, .int 4] w7 Q8 ∧ ∀ v9 w10, Q8 v9 w10 →
((v9 = true → ((¬ a2 = 4 → (vp_in ((4 * ((12 * a0) + a1)) + a2) 240) ∧
Q (gw_i w10 60 (((4 * ((12 * a0) + a1)) + a2).toNatClampNeg)) w10) ∧ (a2 = 4 → (vp_in ((12 * a0) + a1) 60) ∧
(∃ Q13 : Int32 → bw_W → Prop, bw_ri E (d + 1) mX12_lettersOf [.long (gw_l w10 61 (((12 * a0) + a1).toNatClampNeg))] w10 Q13 ∧ ∀ v14 w15, Q13 v14 w15 →
Q v14 w15)))) ∧ (v9 = false → Q (-1000000) w10)))))))))) : bw_ri E (d + 2) mX12_step [.ref 50, .int a0, .int a1, .int a2] w Q := by
  refine bw_enter rfl (Nat.le_of_ble_eq_true rfl) ?_
  refine bw_aload_n (i := 0) dX12_step_0 rfl rfl ?_
  refine bw_iload_n (i := 1) dX12_step_1 rfl rfl ?_
  obtain ⟨Q1, hr, h⟩ := h
  refine bw_cVb (As := [.int a0]) (st := []) cv_BentWordsModel_493 rfl rfl hr rfl rfl (Nat.le_of_ble_eq_true rfl) dX12_step_2 (fun v2 w3 hv => ?_)
  replace h := h v2 w3 hv
  clear hr
  refine bw_ifb_eq (tgt := 33) dX12_step_5 (by decide) (fun c => ?_) (fun c => ?_)
  · replace h := h.1 (c)
    refine bw_ldcw ki_BentWordsModel_259 dX12_step_33 ?_
    exact bw_ireturn dX12_step_36 rfl rfl ⟨_, rfl, h⟩
  · replace h := h.2 (c)
    refine bw_iload_n (i := 2) dX12_step_8 rfl rfl ?_
    refine bw_iconst (v := 0) dX12_step_9 (by decide) ?_
    refine bw_aload_n (i := 0) dX12_step_10 rfl rfl ?_
    refine bw_getr (r := 62) fg_BentWordsModel_44 rfl rfl dX12_step_11 ?_
    refine bw_iload_n (i := 1) dX12_step_14 rfl rfl ?_
    obtain ⟨hi4, h⟩ := h
    refine bw_iaload rfl hi4 dX12_step_15 ?_
    refine bw_iconst (v := 1) dX12_step_16 (by decide) ?_
    refine bw_isub dX12_step_17 ?_
    obtain ⟨Q5, hr, h⟩ := h
    refine bw_cSb (As := [.int a1, .int 0, .int ((gw_i w3 62 (a0.toNatClampNeg)) - 1)]) (st := []) cs_BentWordsModel_100 hr rfl rfl (Nat.le_of_ble_eq_true rfl) dX12_step_18 (fun v6 w7 hv => ?_)
    replace h := h v6 w7 hv
    clear hr
    refine bw_ifb_eq (tgt := 33) dX12_step_21 (by decide) (fun c => ?_) (fun c => ?_)
    · replace h := h.1 (c)
      refine bw_ldcw ki_BentWordsModel_259 dX12_step_33 ?_
      exact bw_ireturn dX12_step_36 rfl rfl ⟨_, rfl, h⟩
    · replace h := h.2 (c)
      refine bw_iload_n (i := 3) dX12_step_24 rfl rfl ?_
      refine bw_iconst (v := 0) dX12_step_25 (by decide) ?_
      refine bw_iconst (v := 4) dX12_step_26 (by decide) ?_
      obtain ⟨Q8, hr, h⟩ := h
      refine bw_cSb (As := [.int a2, .int 0, .int 4]) (st := []) cs_BentWordsModel_100 hr rfl rfl (Nat.le_of_ble_eq_true rfl) dX12_step_27 (fun v9 w10 hv => ?_)
      replace h := h v9 w10 hv
      clear hr
      refine bw_ifb_ne (tgt := 37) dX12_step_30 (by decide) (fun c => ?_) (fun c => ?_)
      · replace h := h.1 (c)
        refine bw_iload_n (i := 3) dX12_step_37 rfl rfl ?_
        refine bw_iconst (v := 4) dX12_step_38 (by decide) ?_
        refine bw_icmp_ne (tgt := 59) dX12_step_39 (by decide) (fun c => ?_) (fun c => ?_)
        · replace h := h.1 (c)
          refine bw_aload_n (i := 0) dX12_step_59 rfl rfl ?_
          refine bw_getr (r := 60) fg_BentWordsModel_38 rfl rfl dX12_step_60 ?_
          refine bw_iconst (v := 4) dX12_step_63 (by decide) ?_
          refine bw_bipush (v := 12) dX12_step_64 (by decide) ?_
          refine bw_iload_n (i := 1) dX12_step_66 rfl rfl ?_
          refine bw_imul dX12_step_67 ?_
          refine bw_iload_n (i := 2) dX12_step_68 rfl rfl ?_
          refine bw_iadd dX12_step_69 ?_
          refine bw_imul dX12_step_70 ?_
          refine bw_iload_n (i := 3) dX12_step_71 rfl rfl ?_
          refine bw_iadd dX12_step_72 ?_
          obtain ⟨hi11, h⟩ := h
          refine bw_iaload rfl hi11 dX12_step_73 ?_
          exact bw_ireturn dX12_step_74 rfl rfl ⟨_, rfl, h⟩
        · replace h := h.2 (c)
          refine bw_aload_n (i := 0) dX12_step_42 rfl rfl ?_
          refine bw_getr (r := 61) fg_BentWordsModel_41 rfl rfl dX12_step_43 ?_
          refine bw_bipush (v := 12) dX12_step_46 (by decide) ?_
          refine bw_iload_n (i := 1) dX12_step_48 rfl rfl ?_
          refine bw_imul dX12_step_49 ?_
          refine bw_iload_n (i := 2) dX12_step_50 rfl rfl ?_
          refine bw_iadd dX12_step_51 ?_
          obtain ⟨hi12, h⟩ := h
          refine bw_laload rfl hi12 dX12_step_52 ?_
          obtain ⟨Q13, hr, h⟩ := h
          refine bw_cSi (As := [.long (gw_l w10 61 (((12 * a0) + a1).toNatClampNeg))]) (st := []) cs_BentWordsModel_304 hr rfl rfl (Nat.le_of_ble_eq_true rfl) dX12_step_53 (fun v14 w15 hv => ?_)
          replace h := h v14 w15 hv
          clear hr
          refine bw_goto (tgt := 74) dX12_step_56 (by decide) ?_
          exact bw_ireturn dX12_step_74 rfl rfl ⟨_, rfl, h⟩
      · replace h := h.2 (c)
        refine bw_ldcw ki_BentWordsModel_259 dX12_step_33 ?_
        exact bw_ireturn dX12_step_36 rfl rfl ⟨_, rfl, h⟩
theorem wfX4_readForm {E : bw_E} {d : Nat} {w : bw_W} {Q : Bool → bw_W → Prop} {a0 : Int32}  (h : (∃ Q1 : Bool → bw_W → Prop, bw_rb E (d + 2) mX0_takeWord [.ref 3] w Q1 ∧ ∀ v2 w3, Q1 v2 w3 →
((v2 = true → (∃ Q4 : Int32 → bw_W → Prop, bw_ri E (d + 2) mX3_nounNamed [.ref 5, .long (gw_l w3 3 5)] w3 Q4 ∧ ∀ v5 w6, Q4 v5 w6 →
((¬ v5 = (-1) → (∃ Q7 : Bool → bw_W → Prop, bw_rb E (d + 2) mX0_takeNumber [.ref 3, .int 1, .int 3] w6 Q7 ∧ ∀ v8 w9, Q7 v8 w9 →
((v8 = true → (∃ Q10 : Bool → bw_W → Prop, bw_rb E (d + 2) mX0_takeNumber [.ref 3, .int 1, .int 1] w9 Q10 ∧ ∀ v11 w12, Q10 v11 w12 →
((v11 = true → (∃ Q13 : Int32 → bw_W → Prop, bw_ri E (d + 2) mX7_formCell [.int v5, .int (gw_i w9 3 4), .int (gw_i w12 3 4)] w12 Q13 ∧ ∀ v14 w15, Q13 v14 w15 →
(∃ Q16 : Bool → bw_W → Prop, bw_rb E (d + 2) mX4_readWordOnce [.ref 4, .int a0, .ref 8, .int v14] w15 Q16 ∧ ∀ v17 w18, Q16 v17 w18 →
Q v17 w18))) ∧ (v11 = false → Q false w12)))) ∧ (v8 = false → Q false w9)))) ∧ (v5 = (-1) → (∃ Q19 : Bool → bw_W → Prop, bw_rb E (d + 2) mX0_fail [.ref 3, .int (gw_i w6 3 2)] w6 Q19 ∧ ∀ v20 w21, Q19 v20 w21 →
Q v20 w21))))) ∧ (v2 = false → Q false w3)))) : bw_rb E (d + 3) mX4_readForm [.ref 4, .int a0] w Q := by
  refine bw_enter rfl (Nat.le_of_ble_eq_true rfl) ?_
  refine bw_aload_n (i := 0) dX4_readForm_0 rfl rfl ?_
  refine bw_getr (r := 3) fg_BentWords_LexiconReader_9 rfl rfl dX4_readForm_1 ?_
  obtain ⟨Q1, hr, h⟩ := h
  refine bw_cVb (As := []) (st := []) cv_BentWords_LexiconReader_51 rfl rfl hr rfl rfl (Nat.le_of_ble_eq_true rfl) dX4_readForm_4 (fun v2 w3 hv => ?_)
  replace h := h v2 w3 hv
  clear hr
  refine bw_ifb_ne (tgt := 12) dX4_readForm_7 (by decide) (fun c => ?_) (fun c => ?_)
  · replace h := h.1 (c)
    refine bw_aload_n (i := 0) dX4_readForm_12 rfl rfl ?_
    refine bw_getr (r := 5) fg_BentWords_LexiconReader_18 rfl rfl dX4_readForm_13 ?_
    refine bw_aload_n (i := 0) dX4_readForm_16 rfl rfl ?_
    refine bw_getr (r := 3) fg_BentWords_LexiconReader_9 rfl rfl dX4_readForm_17 ?_
    refine bw_getl fg_BentWords_LexiconReader_95 rfl dX4_readForm_20 ?_
    obtain ⟨Q4, hr, h⟩ := h
    refine bw_cVi (As := [.long (gw_l w3 3 5)]) (st := []) cv_BentWords_LexiconReader_99 rfl rfl hr rfl rfl (Nat.le_of_ble_eq_true rfl) dX4_readForm_23 (fun v5 w6 hv => ?_)
    replace h := h v5 w6 hv
    clear hr
    refine bw_istore_n (i := 2) (L' := [some (.ref 4), some (.int a0), some (.int v5), none]) dX4_readForm_26 rfl (Nat.le_of_ble_eq_true rfl) rfl ?_
    refine bw_iload_n (i := 2) dX4_readForm_27 rfl rfl ?_
    refine bw_iconst (v := (-1)) dX4_readForm_28 (by decide) ?_
    refine bw_icmp_ne (tgt := 47) dX4_readForm_29 (by decide) (fun c => ?_) (fun c => ?_)
    · replace h := h.1 (c)
      refine bw_aload_n (i := 0) dX4_readForm_47 rfl rfl ?_
      refine bw_getr (r := 3) fg_BentWords_LexiconReader_9 rfl rfl dX4_readForm_48 ?_
      refine bw_iconst (v := 1) dX4_readForm_51 (by decide) ?_
      refine bw_iconst (v := 3) dX4_readForm_52 (by decide) ?_
      obtain ⟨Q7, hr, h⟩ := h
      refine bw_cVb (As := [.int 1, .int 3]) (st := []) cv_BentWords_LexiconReader_106 rfl rfl hr rfl rfl (Nat.le_of_ble_eq_true rfl) dX4_readForm_53 (fun v8 w9 hv => ?_)
      replace h := h v8 w9 hv
      clear hr
      refine bw_ifb_ne (tgt := 61) dX4_readForm_56 (by decide) (fun c => ?_) (fun c => ?_)
      · replace h := h.1 (c)
        refine bw_aload_n (i := 0) dX4_readForm_61 rfl rfl ?_
        refine bw_getr (r := 3) fg_BentWords_LexiconReader_9 rfl rfl dX4_readForm_62 ?_
        refine bw_geti fg_BentWords_LexiconReader_114 rfl dX4_readForm_65 ?_
        refine bw_istore_n (i := 3) (L' := [some (.ref 4), some (.int a0), some (.int v5), some (.int (gw_i w9 3 4))]) dX4_readForm_68 rfl (Nat.le_of_ble_eq_true rfl) rfl ?_
        refine bw_aload_n (i := 0) dX4_readForm_69 rfl rfl ?_
        refine bw_getr (r := 3) fg_BentWords_LexiconReader_9 rfl rfl dX4_readForm_70 ?_
        refine bw_iconst (v := 1) dX4_readForm_73 (by decide) ?_
        refine bw_iconst (v := 1) dX4_readForm_74 (by decide) ?_
        obtain ⟨Q10, hr, h⟩ := h
        refine bw_cVb (As := [.int 1, .int 1]) (st := []) cv_BentWords_LexiconReader_106 rfl rfl hr rfl rfl (Nat.le_of_ble_eq_true rfl) dX4_readForm_75 (fun v11 w12 hv => ?_)
        replace h := h v11 w12 hv
        clear hr
        refine bw_ifb_ne (tgt := 83) dX4_readForm_78 (by decide) (fun c => ?_) (fun c => ?_)
        · replace h := h.1 (c)
          refine bw_aload_n (i := 0) dX4_readForm_83 rfl rfl ?_
          refine bw_iload_n (i := 1) dX4_readForm_84 rfl rfl ?_
          refine bw_aload_n (i := 0) dX4_readForm_85 rfl rfl ?_
          refine bw_getr (r := 5) fg_BentWords_LexiconReader_18 rfl rfl dX4_readForm_86 ?_
          refine bw_getr (r := 8) fg_BentWords_LexiconReader_117 rfl rfl dX4_readForm_89 ?_
          refine bw_iload_n (i := 2) dX4_readForm_92 rfl rfl ?_
          refine bw_iload_n (i := 3) dX4_readForm_93 rfl rfl ?_
          refine bw_aload_n (i := 0) dX4_readForm_94 rfl rfl ?_
          refine bw_getr (r := 3) fg_BentWords_LexiconReader_9 rfl rfl dX4_readForm_95 ?_
          refine bw_geti fg_BentWords_LexiconReader_114 rfl dX4_readForm_98 ?_
          obtain ⟨Q13, hr, h⟩ := h
          refine bw_cSi (As := [.int v5, .int (gw_i w9 3 4), .int (gw_i w12 3 4)]) (st := [.ref 8, .int a0, .ref 4]) cs_BentWords_LexiconReader_120 hr rfl rfl (Nat.le_of_ble_eq_true rfl) dX4_readForm_101 (fun v14 w15 hv => ?_)
          replace h := h v14 w15 hv
          clear hr
          obtain ⟨Q16, hr, h⟩ := h
          refine bw_cVb (As := [.int a0, .ref 8, .int v14]) (st := []) cv_BentWords_LexiconReader_126 rfl rfl hr rfl rfl (Nat.le_of_ble_eq_true rfl) dX4_readForm_104 (fun v17 w18 hv => ?_)
          replace h := h v17 w18 hv
          clear hr
          exact bw_ireturn dX4_readForm_107 rfl (bw_nb _) ⟨_, rfl, h⟩
        · replace h := h.2 (c)
          refine bw_iconst (v := 0) dX4_readForm_81 (by decide) ?_
          exact bw_ireturn dX4_readForm_82 rfl (bw_nb false) ⟨false, rfl, h⟩
      · replace h := h.2 (c)
        refine bw_iconst (v := 0) dX4_readForm_59 (by decide) ?_
        exact bw_ireturn dX4_readForm_60 rfl (bw_nb false) ⟨false, rfl, h⟩
    · replace h := h.2 (c)
      refine bw_aload_n (i := 0) dX4_readForm_32 rfl rfl ?_
      refine bw_getr (r := 3) fg_BentWords_LexiconReader_9 rfl rfl dX4_readForm_33 ?_
      refine bw_aload_n (i := 0) dX4_readForm_36 rfl rfl ?_
      refine bw_getr (r := 3) fg_BentWords_LexiconReader_9 rfl rfl dX4_readForm_37 ?_
      refine bw_geti fg_BentWords_LexiconReader_54 rfl dX4_readForm_40 ?_
      obtain ⟨Q19, hr, h⟩ := h
      refine bw_cVb (As := [.int (gw_i w6 3 2)]) (st := []) cv_BentWords_LexiconReader_92 rfl rfl hr rfl rfl (Nat.le_of_ble_eq_true rfl) dX4_readForm_43 (fun v20 w21 hv => ?_)
      replace h := h v20 w21 hv
      clear hr
      exact bw_ireturn dX4_readForm_46 rfl (bw_nb _) ⟨_, rfl, h⟩
  · replace h := h.2 (c)
    refine bw_iconst (v := 0) dX4_readForm_10 (by decide) ?_
    exact bw_ireturn dX4_readForm_11 rfl (bw_nb false) ⟨false, rfl, h⟩
theorem wfX4_readBoundWord {E : bw_E} {d : Nat} {w : bw_W} {Q : Bool → bw_W → Prop} {a0 : Int32} {ta : Nat} (h_ta : bw_sh ta = (2, 24, 0)) (h : (∃ Q1 : Bool → bw_W → Prop, bw_rb E (d + 2) mX0_takeNumber [.ref 3, .int 1, .int 3] w Q1 ∧ ∀ v2 w3, Q1 v2 w3 →
((v2 = true → (∃ Q4 : Bool → bw_W → Prop, bw_rb E (d + 2) mX0_takeNumber [.ref 3, .int 1, .int 1] w3 Q4 ∧ ∀ v5 w6, Q4 v5 w6 →
((v5 = true → (∃ Q7 : Bool → bw_W → Prop, bw_rb E (d + 2) mX0_takeNumber [.ref 3, .int 1, .int 2] w6 Q7 ∧ ∀ v8 w9, Q7 v8 w9 →
((v8 = true → (∃ Q10 : Int32 → bw_W → Prop, bw_ri E (d + 2) mX3_boundSlot [.int (gw_i w3 3 4), .int (gw_i w6 3 4), .int (gw_i w9 3 4)] w9 Q10 ∧ ∀ v11 w12, Q10 v11 w12 →
(∃ Q13 : Bool → bw_W → Prop, bw_rb E (d + 2) mX4_readWordOnce [.ref 4, .int a0, .ref ta, .int v11] w12 Q13 ∧ ∀ v14 w15, Q13 v14 w15 →
Q v14 w15))) ∧ (v8 = false → Q false w9)))) ∧ (v5 = false → Q false w6)))) ∧ (v2 = false → Q false w3)))) : bw_rb E (d + 3) mX4_readBoundWord [.ref 4, .int a0, .ref ta] w Q := by
  refine bw_enter rfl (Nat.le_of_ble_eq_true rfl) ?_
  refine bw_aload_n (i := 0) dX4_readBoundWord_0 rfl rfl ?_
  refine bw_getr (r := 3) fg_BentWords_LexiconReader_9 rfl rfl dX4_readBoundWord_1 ?_
  refine bw_iconst (v := 1) dX4_readBoundWord_4 (by decide) ?_
  refine bw_iconst (v := 3) dX4_readBoundWord_5 (by decide) ?_
  obtain ⟨Q1, hr, h⟩ := h
  refine bw_cVb (As := [.int 1, .int 3]) (st := []) cv_BentWords_LexiconReader_106 rfl rfl hr rfl rfl (Nat.le_of_ble_eq_true rfl) dX4_readBoundWord_6 (fun v2 w3 hv => ?_)
  replace h := h v2 w3 hv
  clear hr
  refine bw_ifb_ne (tgt := 14) dX4_readBoundWord_9 (by decide) (fun c => ?_) (fun c => ?_)
  · replace h := h.1 (c)
    refine bw_aload_n (i := 0) dX4_readBoundWord_14 rfl rfl ?_
    refine bw_getr (r := 3) fg_BentWords_LexiconReader_9 rfl rfl dX4_readBoundWord_15 ?_
    refine bw_geti fg_BentWords_LexiconReader_114 rfl dX4_readBoundWord_18 ?_
    refine bw_istore_n (i := 3) (L' := [some (.ref 4), some (.int a0), some (.ref ta), some (.int (gw_i w3 3 4)), none]) dX4_readBoundWord_21 rfl (Nat.le_of_ble_eq_true rfl) rfl ?_
    refine bw_aload_n (i := 0) dX4_readBoundWord_22 rfl rfl ?_
    refine bw_getr (r := 3) fg_BentWords_LexiconReader_9 rfl rfl dX4_readBoundWord_23 ?_
    refine bw_iconst (v := 1) dX4_readBoundWord_26 (by decide) ?_
    refine bw_iconst (v := 1) dX4_readBoundWord_27 (by decide) ?_
    obtain ⟨Q4, hr, h⟩ := h
    refine bw_cVb (As := [.int 1, .int 1]) (st := []) cv_BentWords_LexiconReader_106 rfl rfl hr rfl rfl (Nat.le_of_ble_eq_true rfl) dX4_readBoundWord_28 (fun v5 w6 hv => ?_)
    replace h := h v5 w6 hv
    clear hr
    refine bw_ifb_ne (tgt := 36) dX4_readBoundWord_31 (by decide) (fun c => ?_) (fun c => ?_)
    · replace h := h.1 (c)
      refine bw_aload_n (i := 0) dX4_readBoundWord_36 rfl rfl ?_
      refine bw_getr (r := 3) fg_BentWords_LexiconReader_9 rfl rfl dX4_readBoundWord_37 ?_
      refine bw_geti fg_BentWords_LexiconReader_114 rfl dX4_readBoundWord_40 ?_
      refine bw_istore (i := 4) (L' := [some (.ref 4), some (.int a0), some (.ref ta), some (.int (gw_i w3 3 4)), some (.int (gw_i w6 3 4))]) dX4_readBoundWord_43 (Nat.le_of_ble_eq_true rfl) rfl ?_
      refine bw_aload_n (i := 0) dX4_readBoundWord_45 rfl rfl ?_
      refine bw_getr (r := 3) fg_BentWords_LexiconReader_9 rfl rfl dX4_readBoundWord_46 ?_
      refine bw_iconst (v := 1) dX4_readBoundWord_49 (by decide) ?_
      refine bw_iconst (v := 2) dX4_readBoundWord_50 (by decide) ?_
      obtain ⟨Q7, hr, h⟩ := h
      refine bw_cVb (As := [.int 1, .int 2]) (st := []) cv_BentWords_LexiconReader_106 rfl rfl hr rfl rfl (Nat.le_of_ble_eq_true rfl) dX4_readBoundWord_51 (fun v8 w9 hv => ?_)
      replace h := h v8 w9 hv
      clear hr
      refine bw_ifb_ne (tgt := 59) dX4_readBoundWord_54 (by decide) (fun c => ?_) (fun c => ?_)
      · replace h := h.1 (c)
        refine bw_aload_n (i := 0) dX4_readBoundWord_59 rfl rfl ?_
        refine bw_iload_n (i := 1) dX4_readBoundWord_60 rfl rfl ?_
        refine bw_aload_n (i := 2) dX4_readBoundWord_61 rfl rfl ?_
        refine bw_iload_n (i := 3) dX4_readBoundWord_62 rfl rfl ?_
        refine bw_iload dX4_readBoundWord_63 rfl ?_
        refine bw_aload_n (i := 0) dX4_readBoundWord_65 rfl rfl ?_
        refine bw_getr (r := 3) fg_BentWords_LexiconReader_9 rfl rfl dX4_readBoundWord_66 ?_
        refine bw_geti fg_BentWords_LexiconReader_114 rfl dX4_readBoundWord_69 ?_
        obtain ⟨Q10, hr, h⟩ := h
        refine bw_cSi (As := [.int (gw_i w3 3 4), .int (gw_i w6 3 4), .int (gw_i w9 3 4)]) (st := [.ref ta, .int a0, .ref 4]) cs_BentWords_LexiconReader_130 hr rfl rfl (Nat.le_of_ble_eq_true rfl) dX4_readBoundWord_72 (fun v11 w12 hv => ?_)
        replace h := h v11 w12 hv
        clear hr
        obtain ⟨Q13, hr, h⟩ := h
        refine bw_cVb (As := [.int a0, .ref ta, .int v11]) (st := []) cv_BentWords_LexiconReader_126 rfl rfl hr rfl rfl (Nat.le_of_ble_eq_true rfl) dX4_readBoundWord_75 (fun v14 w15 hv => ?_)
        replace h := h v14 w15 hv
        clear hr
        exact bw_ireturn dX4_readBoundWord_78 rfl (bw_nb _) ⟨_, rfl, h⟩
      · replace h := h.2 (c)
        refine bw_iconst (v := 0) dX4_readBoundWord_57 (by decide) ?_
        exact bw_ireturn dX4_readBoundWord_58 rfl (bw_nb false) ⟨false, rfl, h⟩
    · replace h := h.2 (c)
      refine bw_iconst (v := 0) dX4_readBoundWord_34 (by decide) ?_
      exact bw_ireturn dX4_readBoundWord_35 rfl (bw_nb false) ⟨false, rfl, h⟩
  · replace h := h.2 (c)
    refine bw_iconst (v := 0) dX4_readBoundWord_12 (by decide) ?_
    exact bw_ireturn dX4_readBoundWord_13 rfl (bw_nb false) ⟨false, rfl, h⟩
theorem wfX4_readMessage_85 {E : bw_E} {d : Nat} {w : bw_W} {Q : Bool → bw_W → Prop} {l1 : Int32} {l2 : Int32} {l3 : Int32}  (h : ((8 ≤ l3 → (vp_in l2 4) ∧
Q true (sw_i (sw_i w 12 (l2.toNatClampNeg) l3) 5 6 ((gw_i w 5 6) + 1))) ∧ (¬ (8 ≤ l3) → ((l3 = 0 → (∃ Q2 : Bool → bw_W → Prop, bw_rb E (d + 2) mX4_readItem [.ref 4, .int ((l2 * 8) + l3)] w Q2 ∧ ∀ v3 w4, Q2 v3 w4 →
((v3 = true → bw_G E (d + 3) mX4_readMessage 85 [some (.ref 4), some (.int l1), some (.int l2), some (.int (l3 + 1))] [] w4 (bw_qb Q)) ∧ (v3 = false → Q false w4)))) ∧ (¬ (l3 = 0) → (∃ Q5 : Bool → bw_W → Prop, bw_rb E (d + 2) mX4_isAtClauseEnd [.ref 4] w Q5 ∧ ∀ v6 w7, Q5 v6 w7 →
((v6 = true → (vp_in l2 4) ∧
Q true (sw_i (sw_i w7 12 (l2.toNatClampNeg) l3) 5 6 ((gw_i w7 5 6) + 1))) ∧ (v6 = false → (∃ Q9 : Bool → bw_W → Prop, bw_rb E (d + 2) mX4_readItem [.ref 4, .int ((l2 * 8) + l3)] w7 Q9 ∧ ∀ v10 w11, Q9 v10 w11 →
((v10 = true → bw_G E (d + 3) mX4_readMessage 85 [some (.ref 4), some (.int l1), some (.int l2), some (.int (l3 + 1))] [] w11 (bw_qb Q)) ∧ (v10 = false → Q false w11))))))))))) : bw_G E (d + 3) mX4_readMessage 85 [some (.ref 4), some (.int l1), some (.int l2), some (.int l3)] [] w (bw_qb Q) := by
  refine bw_iload_n (i := 3) dX4_readMessage_85 rfl rfl ?_
  refine bw_bipush (v := 8) dX4_readMessage_86 (by decide) ?_
  refine bw_icmp_ge (tgt := 123) dX4_readMessage_88 (by decide) (fun c => ?_) (fun c => ?_)
  · replace h := h.1 (c)
    refine bw_aload_n (i := 0) dX4_readMessage_123 rfl rfl ?_
    refine bw_getr (r := 5) fg_BentWords_LexiconReader_18 rfl rfl dX4_readMessage_124 ?_
    refine bw_getr (r := 12) fg_BentWords_LexiconReader_148 rfl rfl dX4_readMessage_127 ?_
    refine bw_iload_n (i := 2) dX4_readMessage_130 rfl rfl ?_
    refine bw_iload_n (i := 3) dX4_readMessage_131 rfl rfl ?_
    obtain ⟨hi1, h⟩ := h
    refine bw_iastore rfl hi1 dX4_readMessage_132 ?_
    refine bw_aload_n (i := 0) dX4_readMessage_133 rfl rfl ?_
    refine bw_getr (r := 5) fg_BentWords_LexiconReader_18 rfl rfl dX4_readMessage_134 ?_
    refine bw_dup dX4_readMessage_137 rfl ?_
    refine bw_geti fg_BentWords_LexiconReader_133 rfl dX4_readMessage_138 ?_
    rw [show gw_i (sw_i w 12 (l2.toNatClampNeg) l3) 5 6 = (gw_i w 5 6) from rfl]
    refine bw_iconst (v := 1) dX4_readMessage_141 (by decide) ?_
    refine bw_iadd dX4_readMessage_142 ?_
    refine bw_puti fp_BentWords_LexiconReader_133 rfl rfl rfl dX4_readMessage_143 ?_
    refine bw_iconst (v := 1) dX4_readMessage_146 (by decide) ?_
    exact bw_ireturn dX4_readMessage_147 rfl (bw_nb true) ⟨true, rfl, h⟩
  · replace h := h.2 (c)
    refine bw_iload_n (i := 3) dX4_readMessage_91 rfl rfl ?_
    refine bw_if_eq (tgt := 102) dX4_readMessage_92 (by decide) (fun c => ?_) (fun c => ?_)
    · replace h := h.1 (c)
      refine bw_aload_n (i := 0) dX4_readMessage_102 rfl rfl ?_
      refine bw_iload_n (i := 2) dX4_readMessage_103 rfl rfl ?_
      refine bw_bipush (v := 8) dX4_readMessage_104 (by decide) ?_
      refine bw_imul dX4_readMessage_106 ?_
      refine bw_iload_n (i := 3) dX4_readMessage_107 rfl rfl ?_
      refine bw_iadd dX4_readMessage_108 ?_
      obtain ⟨Q2, hr, h⟩ := h
      refine bw_cVb (As := [.int ((l2 * 8) + l3)]) (st := []) cv_BentWords_LexiconReader_145 rfl rfl hr rfl rfl (Nat.le_of_ble_eq_true rfl) dX4_readMessage_109 (fun v3 w4 hv => ?_)
      replace h := h v3 w4 hv
      clear hr
      refine bw_ifb_ne (tgt := 117) dX4_readMessage_112 (by decide) (fun c => ?_) (fun c => ?_)
      · replace h := h.1 (c)
        refine bw_iinc (i := 3) (x := l3) (v := (l3 + 1)) (L' := [some (.ref 4), some (.int l1), some (.int l2), some (.int (l3 + 1))]) dX4_readMessage_117 rfl rfl (Nat.le_of_ble_eq_true rfl) rfl ?_
        refine bw_goto (tgt := 85) dX4_readMessage_120 (by decide) ?_
        exact h
      · replace h := h.2 (c)
        refine bw_iconst (v := 0) dX4_readMessage_115 (by decide) ?_
        exact bw_ireturn dX4_readMessage_116 rfl (bw_nb false) ⟨false, rfl, h⟩
    · replace h := h.2 (c)
      refine bw_aload_n (i := 0) dX4_readMessage_95 rfl rfl ?_
      obtain ⟨Q5, hr, h⟩ := h
      refine bw_cVb (As := []) (st := []) cv_BentWords_LexiconReader_142 rfl rfl hr rfl rfl (Nat.le_of_ble_eq_true rfl) dX4_readMessage_96 (fun v6 w7 hv => ?_)
      replace h := h v6 w7 hv
      clear hr
      refine bw_ifb_ne (tgt := 123) dX4_readMessage_99 (by decide) (fun c => ?_) (fun c => ?_)
      · replace h := h.1 (c)
        refine bw_aload_n (i := 0) dX4_readMessage_123 rfl rfl ?_
        refine bw_getr (r := 5) fg_BentWords_LexiconReader_18 rfl rfl dX4_readMessage_124 ?_
        refine bw_getr (r := 12) fg_BentWords_LexiconReader_148 rfl rfl dX4_readMessage_127 ?_
        refine bw_iload_n (i := 2) dX4_readMessage_130 rfl rfl ?_
        refine bw_iload_n (i := 3) dX4_readMessage_131 rfl rfl ?_
        obtain ⟨hi8, h⟩ := h
        refine bw_iastore rfl hi8 dX4_readMessage_132 ?_
        refine bw_aload_n (i := 0) dX4_readMessage_133 rfl rfl ?_
        refine bw_getr (r := 5) fg_BentWords_LexiconReader_18 rfl rfl dX4_readMessage_134 ?_
        refine bw_dup dX4_readMessage_137 rfl ?_
        refine bw_geti fg_BentWords_LexiconReader_133 rfl dX4_readMessage_138 ?_
        rw [show gw_i (sw_i w7 12 (l2.toNatClampNeg) l3) 5 6 = (gw_i w7 5 6) from rfl]
        refine bw_iconst (v := 1) dX4_readMessage_141 (by decide) ?_
        refine bw_iadd dX4_readMessage_142 ?_
        refine bw_puti fp_BentWords_LexiconReader_133 rfl rfl rfl dX4_readMessage_143 ?_
        refine bw_iconst (v := 1) dX4_readMessage_146 (by decide) ?_
        exact bw_ireturn dX4_readMessage_147 rfl (bw_nb true) ⟨true, rfl, h⟩
      · replace h := h.2 (c)
        refine bw_aload_n (i := 0) dX4_readMessage_102 rfl rfl ?_
        refine bw_iload_n (i := 2) dX4_readMessage_103 rfl rfl ?_
        refine bw_bipush (v := 8) dX4_readMessage_104 (by decide) ?_
        refine bw_imul dX4_readMessage_106 ?_
        refine bw_iload_n (i := 3) dX4_readMessage_107 rfl rfl ?_
        refine bw_iadd dX4_readMessage_108 ?_
        obtain ⟨Q9, hr, h⟩ := h
        refine bw_cVb (As := [.int ((l2 * 8) + l3)]) (st := []) cv_BentWords_LexiconReader_145 rfl rfl hr rfl rfl (Nat.le_of_ble_eq_true rfl) dX4_readMessage_109 (fun v10 w11 hv => ?_)
        replace h := h v10 w11 hv
        clear hr
        refine bw_ifb_ne (tgt := 117) dX4_readMessage_112 (by decide) (fun c => ?_) (fun c => ?_)
        · replace h := h.1 (c)
          refine bw_iinc (i := 3) (x := l3) (v := (l3 + 1)) (L' := [some (.ref 4), some (.int l1), some (.int l2), some (.int (l3 + 1))]) dX4_readMessage_117 rfl rfl (Nat.le_of_ble_eq_true rfl) rfl ?_
          refine bw_goto (tgt := 85) dX4_readMessage_120 (by decide) ?_
          exact h
        · replace h := h.2 (c)
          refine bw_iconst (v := 0) dX4_readMessage_115 (by decide) ?_
          exact bw_ireturn dX4_readMessage_116 rfl (bw_nb false) ⟨false, rfl, h⟩
theorem wfX4_readMessage {E : bw_E} {d : Nat} {w : bw_W} {Q : Bool → bw_W → Prop} {a0 : Int32}  (h : (((gw_i w 5 6) < 4 → (∃ Q1 : Bool → bw_W → Prop, bw_rb E (d + 2) mX0_takeWord [.ref 3] w Q1 ∧ ∀ v2 w3, Q1 v2 w3 →
((v2 = true → (∃ Q4 : Int32 → bw_W → Prop, bw_ri E (d + 2) mX3_messageNamed [.ref 5, .long (gw_l w3 3 5)] w3 Q4 ∧ ∀ v5 w6, Q4 v5 w6 →
((v5 = (-1) → (vp_in (gw_i w 5 6) 4) ∧
bw_G E (d + 3) mX4_readMessage 85 [some (.ref 4), some (.int a0), some (.int (gw_i w 5 6)), some (.int 0)] [] (sw_l w6 11 ((gw_i w 5 6).toNatClampNeg) (gw_l w6 3 5)) (bw_qb Q)) ∧ (¬ (v5 = (-1)) → (∃ Q8 : Bool → bw_W → Prop, bw_rb E (d + 2) mX0_fail [.ref 3, .int (gw_i w6 3 2)] w6 Q8 ∧ ∀ v9 w10, Q8 v9 w10 →
Q v9 w10))))) ∧ (v2 = false → Q false w3)))) ∧ (¬ ((gw_i w 5 6) < 4) → (∃ Q11 : Bool → bw_W → Prop, bw_rb E (d + 2) mX0_fail [.ref 3, .int a0] w Q11 ∧ ∀ v12 w13, Q11 v12 w13 →
Q v12 w13)))) : bw_rb E (d + 3) mX4_readMessage [.ref 4, .int a0] w Q := by
  refine bw_enter rfl (Nat.le_of_ble_eq_true rfl) ?_
  refine bw_aload_n (i := 0) dX4_readMessage_0 rfl rfl ?_
  refine bw_getr (r := 5) fg_BentWords_LexiconReader_18 rfl rfl dX4_readMessage_1 ?_
  refine bw_geti fg_BentWords_LexiconReader_133 rfl dX4_readMessage_4 ?_
  refine bw_istore_n (i := 2) (L' := [some (.ref 4), some (.int a0), some (.int (gw_i w 5 6)), none]) dX4_readMessage_7 rfl (Nat.le_of_ble_eq_true rfl) rfl ?_
  refine bw_iload_n (i := 2) dX4_readMessage_8 rfl rfl ?_
  refine bw_iconst (v := 4) dX4_readMessage_9 (by decide) ?_
  refine bw_icmp_lt (tgt := 22) dX4_readMessage_10 (by decide) (fun c => ?_) (fun c => ?_)
  · replace h := h.1 (c)
    refine bw_aload_n (i := 0) dX4_readMessage_22 rfl rfl ?_
    refine bw_getr (r := 3) fg_BentWords_LexiconReader_9 rfl rfl dX4_readMessage_23 ?_
    obtain ⟨Q1, hr, h⟩ := h
    refine bw_cVb (As := []) (st := []) cv_BentWords_LexiconReader_51 rfl rfl hr rfl rfl (Nat.le_of_ble_eq_true rfl) dX4_readMessage_26 (fun v2 w3 hv => ?_)
    replace h := h v2 w3 hv
    clear hr
    refine bw_ifb_ne (tgt := 34) dX4_readMessage_29 (by decide) (fun c => ?_) (fun c => ?_)
    · replace h := h.1 (c)
      refine bw_aload_n (i := 0) dX4_readMessage_34 rfl rfl ?_
      refine bw_getr (r := 5) fg_BentWords_LexiconReader_18 rfl rfl dX4_readMessage_35 ?_
      refine bw_aload_n (i := 0) dX4_readMessage_38 rfl rfl ?_
      refine bw_getr (r := 3) fg_BentWords_LexiconReader_9 rfl rfl dX4_readMessage_39 ?_
      refine bw_getl fg_BentWords_LexiconReader_95 rfl dX4_readMessage_42 ?_
      obtain ⟨Q4, hr, h⟩ := h
      refine bw_cVi (As := [.long (gw_l w3 3 5)]) (st := []) cv_BentWords_LexiconReader_136 rfl rfl hr rfl rfl (Nat.le_of_ble_eq_true rfl) dX4_readMessage_45 (fun v5 w6 hv => ?_)
      replace h := h v5 w6 hv
      clear hr
      refine bw_iconst (v := (-1)) dX4_readMessage_48 (by decide) ?_
      refine bw_icmp_eq (tgt := 67) dX4_readMessage_49 (by decide) (fun c => ?_) (fun c => ?_)
      · replace h := h.1 (c)
        refine bw_aload_n (i := 0) dX4_readMessage_67 rfl rfl ?_
        refine bw_getr (r := 5) fg_BentWords_LexiconReader_18 rfl rfl dX4_readMessage_68 ?_
        refine bw_getr (r := 11) fg_BentWords_LexiconReader_139 rfl rfl dX4_readMessage_71 ?_
        refine bw_iload_n (i := 2) dX4_readMessage_74 rfl rfl ?_
        refine bw_aload_n (i := 0) dX4_readMessage_75 rfl rfl ?_
        refine bw_getr (r := 3) fg_BentWords_LexiconReader_9 rfl rfl dX4_readMessage_76 ?_
        refine bw_getl fg_BentWords_LexiconReader_95 rfl dX4_readMessage_79 ?_
        obtain ⟨hi7, h⟩ := h
        refine bw_lastore rfl hi7 dX4_readMessage_82 ?_
        refine bw_iconst (v := 0) dX4_readMessage_83 (by decide) ?_
        refine bw_istore_n (i := 3) (L' := [some (.ref 4), some (.int a0), some (.int (gw_i w 5 6)), some (.int 0)]) dX4_readMessage_84 rfl (Nat.le_of_ble_eq_true rfl) rfl ?_
        exact h
      · replace h := h.2 (c)
        refine bw_aload_n (i := 0) dX4_readMessage_52 rfl rfl ?_
        refine bw_getr (r := 3) fg_BentWords_LexiconReader_9 rfl rfl dX4_readMessage_53 ?_
        refine bw_aload_n (i := 0) dX4_readMessage_56 rfl rfl ?_
        refine bw_getr (r := 3) fg_BentWords_LexiconReader_9 rfl rfl dX4_readMessage_57 ?_
        refine bw_geti fg_BentWords_LexiconReader_54 rfl dX4_readMessage_60 ?_
        obtain ⟨Q8, hr, h⟩ := h
        refine bw_cVb (As := [.int (gw_i w6 3 2)]) (st := []) cv_BentWords_LexiconReader_92 rfl rfl hr rfl rfl (Nat.le_of_ble_eq_true rfl) dX4_readMessage_63 (fun v9 w10 hv => ?_)
        replace h := h v9 w10 hv
        clear hr
        exact bw_ireturn dX4_readMessage_66 rfl (bw_nb _) ⟨_, rfl, h⟩
    · replace h := h.2 (c)
      refine bw_iconst (v := 0) dX4_readMessage_32 (by decide) ?_
      exact bw_ireturn dX4_readMessage_33 rfl (bw_nb false) ⟨false, rfl, h⟩
  · replace h := h.2 (c)
    refine bw_aload_n (i := 0) dX4_readMessage_13 rfl rfl ?_
    refine bw_getr (r := 3) fg_BentWords_LexiconReader_9 rfl rfl dX4_readMessage_14 ?_
    refine bw_iload_n (i := 1) dX4_readMessage_17 rfl rfl ?_
    obtain ⟨Q11, hr, h⟩ := h
    refine bw_cVb (As := [.int a0]) (st := []) cv_BentWords_LexiconReader_92 rfl rfl hr rfl rfl (Nat.le_of_ble_eq_true rfl) dX4_readMessage_18 (fun v12 w13 hv => ?_)
    replace h := h v12 w13 hv
    clear hr
    exact bw_ireturn dX4_readMessage_21 rfl (bw_nb _) ⟨_, rfl, h⟩
theorem wfX6_readSlot {E : bw_E} {d : Nat} {w : bw_W} {Q : Bool → bw_W → Prop} {sp : Nat} (h_sp : bw_sh sp = (0, 8, 5)) (h : (∃ Q1 : Bool → bw_W → Prop, bw_rb E (d + 2) mX6_readA [.ref 17, .ref sp, .int 9] w Q1 ∧ ∀ v2 w3, Q1 v2 w3 →
((v2 = false → Q false w3) ∧ (v2 = true → (∃ Q4 : Bool → bw_W → Prop, bw_rb E (d + 2) mX6_readB [.ref 17, .ref sp, .int 3] w3 Q4 ∧ ∀ v5 w6, Q4 v5 w6 →
((v5 = true → (∃ Q7 : Bool → bw_W → Prop, bw_rb E (d + 2) mX0_takeNumber [.ref 3, .int 1, .int 1] w6 Q7 ∧ ∀ v8 w9, Q7 v8 w9 →
Q v8 (sw_i w9 sp 3 (gw_i w9 3 4)))) ∧ (v5 = false → Q false w6))))))) : bw_rb E (d + 3) mX6_readSlot [.ref 17, .ref sp] w Q := by
  refine bw_enter rfl (Nat.le_of_ble_eq_true rfl) ?_
  refine bw_aload_n (i := 0) dX6_readSlot_0 rfl rfl ?_
  refine bw_aload_n (i := 1) dX6_readSlot_1 rfl rfl ?_
  refine bw_bipush (v := 9) dX6_readSlot_2 (by decide) ?_
  obtain ⟨Q1, hr, h⟩ := h
  refine bw_cVb (As := [.ref sp, .int 9]) (st := []) cv_BentWords_ScriptReader_66 rfl rfl hr rfl rfl (Nat.le_of_ble_eq_true rfl) dX6_readSlot_4 (fun v2 w3 hv => ?_)
  replace h := h v2 w3 hv
  clear hr
  refine bw_ifb_eq (tgt := 19) dX6_readSlot_7 (by decide) (fun c => ?_) (fun c => ?_)
  · replace h := h.1 (c)
    refine bw_iconst (v := 0) dX6_readSlot_19 (by decide) ?_
    exact bw_ireturn dX6_readSlot_20 rfl (bw_nb false) ⟨false, rfl, h⟩
  · replace h := h.2 (c)
    refine bw_aload_n (i := 0) dX6_readSlot_10 rfl rfl ?_
    refine bw_aload_n (i := 1) dX6_readSlot_11 rfl rfl ?_
    refine bw_iconst (v := 3) dX6_readSlot_12 (by decide) ?_
    obtain ⟨Q4, hr, h⟩ := h
    refine bw_cVb (As := [.ref sp, .int 3]) (st := []) cv_BentWords_ScriptReader_70 rfl rfl hr rfl rfl (Nat.le_of_ble_eq_true rfl) dX6_readSlot_13 (fun v5 w6 hv => ?_)
    replace h := h v5 w6 hv
    clear hr
    refine bw_ifb_ne (tgt := 21) dX6_readSlot_16 (by decide) (fun c => ?_) (fun c => ?_)
    · replace h := h.1 (c)
      refine bw_aload_n (i := 0) dX6_readSlot_21 rfl rfl ?_
      refine bw_getr (r := 3) fg_BentWords_ScriptReader_9 rfl rfl dX6_readSlot_22 ?_
      refine bw_iconst (v := 1) dX6_readSlot_25 (by decide) ?_
      refine bw_iconst (v := 1) dX6_readSlot_26 (by decide) ?_
      obtain ⟨Q7, hr, h⟩ := h
      refine bw_cVb (As := [.int 1, .int 1]) (st := []) cv_BentWords_ScriptReader_97 rfl rfl hr rfl rfl (Nat.le_of_ble_eq_true rfl) dX6_readSlot_27 (fun v8 w9 hv => ?_)
      replace h := h v8 w9 hv
      clear hr
      refine bw_istore_n (i := 2) (L' := [some (.ref 17), some (.ref sp), some (.int (bw_b v8))]) dX6_readSlot_30 rfl (Nat.le_of_ble_eq_true rfl) rfl ?_
      refine bw_aload_n (i := 1) dX6_readSlot_31 rfl rfl ?_
      refine bw_aload_n (i := 0) dX6_readSlot_32 rfl rfl ?_
      refine bw_getr (r := 3) fg_BentWords_ScriptReader_9 rfl rfl dX6_readSlot_33 ?_
      refine bw_geti fg_BentWords_ScriptReader_101 rfl dX6_readSlot_36 ?_
      refine bw_puti fp_BentWords_ScriptReader_110 h_sp rfl rfl dX6_readSlot_39 ?_
      refine bw_iload_n (i := 2) dX6_readSlot_42 rfl rfl ?_
      exact bw_ireturn dX6_readSlot_43 rfl (bw_nb _) ⟨_, rfl, h⟩
    · replace h := h.2 (c)
      refine bw_iconst (v := 0) dX6_readSlot_19 (by decide) ?_
      exact bw_ireturn dX6_readSlot_20 rfl (bw_nb false) ⟨false, rfl, h⟩
theorem wfX10_canTell_7 {E : bw_E} {d : Nat} {w : bw_W} {Q : Bool → bw_W → Prop} {l1 : Int32} {l2 : Int32} {l3 : Int32}  (h : (vp_in l1 4) ∧
(((gw_i w 25 (l1.toNatClampNeg)) ≤ l3 → Q true w) ∧ (¬ ((gw_i w 25 (l1.toNatClampNeg)) ≤ l3) → (∃ Q2 : Bool → bw_W → Prop, bw_rb E (d + 2) mX10_canTellItem [.ref 35, .int (l2 + l3)] w Q2 ∧ ∀ v3 w4, Q2 v3 w4 →
((v3 = true → bw_G E (d + 3) mX10_canTell 7 [some (.ref 35), some (.int l1), some (.int l2), some (.int (l3 + 1))] [] w4 (bw_qb Q)) ∧ (v3 = false → Q false (sw_i w4 35 4 l3))))))) : bw_G E (d + 3) mX10_canTell 7 [some (.ref 35), some (.int l1), some (.int l2), some (.int l3)] [] w (bw_qb Q) := by
  refine bw_iload_n (i := 3) dX10_canTell_7 rfl rfl ?_
  refine bw_aload_n (i := 0) dX10_canTell_8 rfl rfl ?_
  refine bw_getr (r := 18) fg_BentWords_Teller_9 rfl rfl dX10_canTell_9 ?_
  refine bw_getr (r := 25) fg_BentWords_Teller_53 rfl rfl dX10_canTell_12 ?_
  refine bw_iload_n (i := 1) dX10_canTell_15 rfl rfl ?_
  obtain ⟨hi1, h⟩ := h
  refine bw_iaload rfl hi1 dX10_canTell_16 ?_
  refine bw_icmp_ge (tgt := 43) dX10_canTell_17 (by decide) (fun c => ?_) (fun c => ?_)
  · replace h := h.1 (c)
    refine bw_iconst (v := 1) dX10_canTell_43 (by decide) ?_
    exact bw_ireturn dX10_canTell_44 rfl (bw_nb true) ⟨true, rfl, h⟩
  · replace h := h.2 (c)
    refine bw_aload_n (i := 0) dX10_canTell_20 rfl rfl ?_
    refine bw_iload_n (i := 2) dX10_canTell_21 rfl rfl ?_
    refine bw_iload_n (i := 3) dX10_canTell_22 rfl rfl ?_
    refine bw_iadd dX10_canTell_23 ?_
    obtain ⟨Q2, hr, h⟩ := h
    refine bw_cVb (As := [.int (l2 + l3)]) (st := []) cv_BentWords_Teller_57 rfl rfl hr rfl rfl (Nat.le_of_ble_eq_true rfl) dX10_canTell_24 (fun v3 w4 hv => ?_)
    replace h := h v3 w4 hv
    clear hr
    refine bw_ifb_ne (tgt := 37) dX10_canTell_27 (by decide) (fun c => ?_) (fun c => ?_)
    · replace h := h.1 (c)
      refine bw_iinc (i := 3) (x := l3) (v := (l3 + 1)) (L' := [some (.ref 35), some (.int l1), some (.int l2), some (.int (l3 + 1))]) dX10_canTell_37 rfl rfl (Nat.le_of_ble_eq_true rfl) rfl ?_
      refine bw_goto (tgt := 7) dX10_canTell_40 (by decide) ?_
      exact h
    · replace h := h.2 (c)
      refine bw_aload_n (i := 0) dX10_canTell_30 rfl rfl ?_
      refine bw_iload_n (i := 3) dX10_canTell_31 rfl rfl ?_
      refine bw_puti fp_BentWords_Teller_60 rfl rfl rfl dX10_canTell_32 ?_
      refine bw_iconst (v := 0) dX10_canTell_35 (by decide) ?_
      exact bw_ireturn dX10_canTell_36 rfl (bw_nb false) ⟨false, rfl, h⟩
theorem wfX10_canTell {E : bw_E} {d : Nat} {w : bw_W} {Q : Bool → bw_W → Prop} {a0 : Int32}  (h : bw_G E (d + 3) mX10_canTell 7 [some (.ref 35), some (.int a0), some (.int (a0 * 8)), some (.int 0)] [] w (bw_qb Q)) : bw_rb E (d + 3) mX10_canTell [.ref 35, .int a0] w Q := by
  refine bw_enter rfl (Nat.le_of_ble_eq_true rfl) ?_
  refine bw_iload_n (i := 1) dX10_canTell_0 rfl rfl ?_
  refine bw_bipush (v := 8) dX10_canTell_1 (by decide) ?_
  refine bw_imul dX10_canTell_3 ?_
  refine bw_istore_n (i := 2) (L' := [some (.ref 35), some (.int a0), some (.int (a0 * 8)), none]) dX10_canTell_4 rfl (Nat.le_of_ble_eq_true rfl) rfl ?_
  refine bw_iconst (v := 0) dX10_canTell_5 (by decide) ?_
  refine bw_istore_n (i := 3) (L' := [some (.ref 35), some (.int a0), some (.int (a0 * 8)), some (.int 0)]) dX10_canTell_6 rfl (Nat.le_of_ble_eq_true rfl) rfl ?_
  exact h
theorem wfX10_putItem {E : bw_E} {d : Nat} {w : bw_W} {Q : bw_W → Prop} {a0 : Int32}  (h : (vp_in a0 32) ∧
(((gw_i w 26 (a0.toNatClampNeg)) = 35 → (∃ Q2 : Int64 → bw_W → Prop, bw_rl E (d + 2) mX10_formIn [.ref 35, .int a0] w Q2 ∧ ∀ v3 w4, Q2 v3 w4 →
(∃ Q5 : bw_W → Prop, bw_rv E (d + 2) mX10_putWord [.ref 35, .long v3] w4 Q5 ∧ ∀ w7, Q5 w7 →
Q w7))) ∧ ((gw_i w 26 (a0.toNatClampNeg)) = 36 → (vp_in a0 32) ∧
(∃ Q9 : Int32 → bw_W → Prop, bw_ri E (d + 2) mX7_countIn [.ref 31, .int (gw_i w 27 (a0.toNatClampNeg))] w Q9 ∧ ∀ v10 w11, Q9 v10 w11 →
(∃ Q12 : bw_W → Prop, bw_rv E (d + 2) mX10_putNumber [.ref 35, .int v10] w11 Q12 ∧ ∀ w14, Q12 w14 →
Q w14))) ∧ ((gw_i w 26 (a0.toNatClampNeg)) = 37 → (∃ Q15 : Int64 → bw_W → Prop, bw_rl E (d + 2) mX10_boundWordIn [.ref 35, .int a0] w Q15 ∧ ∀ v16 w17, Q15 v16 w17 →
(∃ Q18 : bw_W → Prop, bw_rv E (d + 2) mX10_putWord [.ref 35, .long v16] w17 Q18 ∧ ∀ w20, Q18 w20 →
Q w20))) ∧ ((gw_i w 26 (a0.toNatClampNeg)) = 64 → (∃ Q21 : Int64 → bw_W → Prop, bw_rl E (d + 2) mX10_boundWordIn [.ref 35, .int a0] w Q21 ∧ ∀ v22 w23, Q21 v22 w23 →
(∃ Q24 : bw_W → Prop, bw_rv E (d + 2) mX10_putWord [.ref 35, .long v22] w23 Q24 ∧ ∀ w26, Q24 w26 →
(∃ Q27 : Int64 → bw_W → Prop, bw_rl E (d + 2) mX10_formIn [.ref 35, .int a0] w26 Q27 ∧ ∀ v28 w29, Q27 v28 w29 →
(∃ Q30 : bw_W → Prop, bw_rv E (d + 2) mX10_putWord [.ref 35, .long v28] w29 Q30 ∧ ∀ w32, Q30 w32 →
Q w32))))) ∧ ((gw_i w 26 (a0.toNatClampNeg)) = 119 → (vp_in a0 32) ∧
(∃ Q34 : bw_W → Prop, bw_rv E (d + 2) mX10_putWord [.ref 35, .long (gw_l w 29 (a0.toNatClampNeg))] w Q34 ∧ ∀ w36, Q34 w36 →
Q w36)) ∧ (¬ (gw_i w 26 (a0.toNatClampNeg)) = 35 → ¬ (gw_i w 26 (a0.toNatClampNeg)) = 36 → ¬ (gw_i w 26 (a0.toNatClampNeg)) = 37 → ¬ (gw_i w 26 (a0.toNatClampNeg)) = 64 → ¬ (gw_i w 26 (a0.toNatClampNeg)) = 119 → Q w))) : bw_rv E (d + 3) mX10_putItem [.ref 35, .int a0] w Q := by
  refine bw_enter rfl (Nat.le_of_ble_eq_true rfl) ?_
  refine bw_aload_n (i := 0) dX10_putItem_0 rfl rfl ?_
  refine bw_getr (r := 18) fg_BentWords_Teller_9 rfl rfl dX10_putItem_1 ?_
  refine bw_getr (r := 26) fg_BentWords_Teller_69 rfl rfl dX10_putItem_4 ?_
  refine bw_iload_n (i := 1) dX10_putItem_7 rfl rfl ?_
  obtain ⟨hi1, h⟩ := h
  refine bw_caload rfl hi1 dX10_putItem_8 ?_
  by_cases c0 : (gw_i w 26 (a0.toNatClampNeg)) = 35
  · refine bw_lookE (off := 67) (tgt := 76) (v := 35) dX10_putItem_9 c0 (by decide) (by decide) (by decide) ?_
    replace h := h.1 c0
    refine bw_aload_n (i := 0) dX10_putItem_76 rfl rfl ?_
    refine bw_aload_n (i := 0) dX10_putItem_77 rfl rfl ?_
    refine bw_iload_n (i := 1) dX10_putItem_78 rfl rfl ?_
    obtain ⟨Q2, hr, h⟩ := h
    refine bw_cVl (As := [.int a0]) (st := [.ref 35]) cv_BentWords_Teller_144 rfl rfl hr rfl rfl (Nat.le_of_ble_eq_true rfl) dX10_putItem_79 (fun v3 w4 hv => ?_)
    replace h := h v3 w4 hv
    clear hr
    obtain ⟨Q5, hr, h⟩ := h
    refine bw_cVv (As := [.long v3]) (st := []) cv_BentWords_Teller_140 rfl rfl hr rfl rfl (Nat.le_of_ble_eq_true rfl) dX10_putItem_82 (fun w7 hv => ?_)
    replace h := h w7 hv
    clear hr
    refine bw_goto (tgt := 144) dX10_putItem_85 (by decide) ?_
    exact bw_return dX10_putItem_144 rfl ⟨rfl, h⟩
  by_cases c1 : (gw_i w 26 (a0.toNatClampNeg)) = 36
  · refine bw_lookE (off := 112) (tgt := 121) (v := 36) dX10_putItem_9 c1 (by decide) (by decide) (by decide) ?_
    replace h := h.2.1 c1
    refine bw_aload_n (i := 0) dX10_putItem_121 rfl rfl ?_
    refine bw_aload_n (i := 0) dX10_putItem_122 rfl rfl ?_
    refine bw_getr (r := 31) fg_BentWords_Teller_15 rfl rfl dX10_putItem_123 ?_
    refine bw_aload_n (i := 0) dX10_putItem_126 rfl rfl ?_
    refine bw_getr (r := 18) fg_BentWords_Teller_9 rfl rfl dX10_putItem_127 ?_
    refine bw_getr (r := 27) fg_BentWords_Teller_72 rfl rfl dX10_putItem_130 ?_
    refine bw_iload_n (i := 1) dX10_putItem_133 rfl rfl ?_
    obtain ⟨hi8, h⟩ := h
    refine bw_iaload rfl hi8 dX10_putItem_134 ?_
    obtain ⟨Q9, hr, h⟩ := h
    refine bw_cVi (As := [.int (gw_i w 27 (a0.toNatClampNeg))]) (st := [.ref 35]) cv_BentWords_Teller_151 rfl rfl hr rfl rfl (Nat.le_of_ble_eq_true rfl) dX10_putItem_135 (fun v10 w11 hv => ?_)
    replace h := h v10 w11 hv
    clear hr
    obtain ⟨Q12, hr, h⟩ := h
    refine bw_cVv (As := [.int v10]) (st := []) cv_BentWords_Teller_154 rfl rfl hr rfl rfl (Nat.le_of_ble_eq_true rfl) dX10_putItem_138 (fun w14 hv => ?_)
    replace h := h w14 hv
    clear hr
    refine bw_goto (tgt := 144) dX10_putItem_141 (by decide) ?_
    exact bw_return dX10_putItem_144 rfl ⟨rfl, h⟩
  by_cases c2 : (gw_i w 26 (a0.toNatClampNeg)) = 37
  · refine bw_lookE (off := 100) (tgt := 109) (v := 37) dX10_putItem_9 c2 (by decide) (by decide) (by decide) ?_
    replace h := h.2.2.1 c2
    refine bw_aload_n (i := 0) dX10_putItem_109 rfl rfl ?_
    refine bw_aload_n (i := 0) dX10_putItem_110 rfl rfl ?_
    refine bw_iload_n (i := 1) dX10_putItem_111 rfl rfl ?_
    obtain ⟨Q15, hr, h⟩ := h
    refine bw_cVl (As := [.int a0]) (st := [.ref 35]) cv_BentWords_Teller_148 rfl rfl hr rfl rfl (Nat.le_of_ble_eq_true rfl) dX10_putItem_112 (fun v16 w17 hv => ?_)
    replace h := h v16 w17 hv
    clear hr
    obtain ⟨Q18, hr, h⟩ := h
    refine bw_cVv (As := [.long v16]) (st := []) cv_BentWords_Teller_140 rfl rfl hr rfl rfl (Nat.le_of_ble_eq_true rfl) dX10_putItem_115 (fun w20 hv => ?_)
    replace h := h w20 hv
    clear hr
    refine bw_goto (tgt := 144) dX10_putItem_118 (by decide) ?_
    exact bw_return dX10_putItem_144 rfl ⟨rfl, h⟩
  by_cases c3 : (gw_i w 26 (a0.toNatClampNeg)) = 64
  · refine bw_lookE (off := 79) (tgt := 88) (v := 64) dX10_putItem_9 c3 (by decide) (by decide) (by decide) ?_
    replace h := h.2.2.2.1 c3
    refine bw_aload_n (i := 0) dX10_putItem_88 rfl rfl ?_
    refine bw_aload_n (i := 0) dX10_putItem_89 rfl rfl ?_
    refine bw_iload_n (i := 1) dX10_putItem_90 rfl rfl ?_
    obtain ⟨Q21, hr, h⟩ := h
    refine bw_cVl (As := [.int a0]) (st := [.ref 35]) cv_BentWords_Teller_148 rfl rfl hr rfl rfl (Nat.le_of_ble_eq_true rfl) dX10_putItem_91 (fun v22 w23 hv => ?_)
    replace h := h v22 w23 hv
    clear hr
    obtain ⟨Q24, hr, h⟩ := h
    refine bw_cVv (As := [.long v22]) (st := []) cv_BentWords_Teller_140 rfl rfl hr rfl rfl (Nat.le_of_ble_eq_true rfl) dX10_putItem_94 (fun w26 hv => ?_)
    replace h := h w26 hv
    clear hr
    refine bw_aload_n (i := 0) dX10_putItem_97 rfl rfl ?_
    refine bw_aload_n (i := 0) dX10_putItem_98 rfl rfl ?_
    refine bw_iload_n (i := 1) dX10_putItem_99 rfl rfl ?_
    obtain ⟨Q27, hr, h⟩ := h
    refine bw_cVl (As := [.int a0]) (st := [.ref 35]) cv_BentWords_Teller_144 rfl rfl hr rfl rfl (Nat.le_of_ble_eq_true rfl) dX10_putItem_100 (fun v28 w29 hv => ?_)
    replace h := h v28 w29 hv
    clear hr
    obtain ⟨Q30, hr, h⟩ := h
    refine bw_cVv (As := [.long v28]) (st := []) cv_BentWords_Teller_140 rfl rfl hr rfl rfl (Nat.le_of_ble_eq_true rfl) dX10_putItem_103 (fun w32 hv => ?_)
    replace h := h w32 hv
    clear hr
    refine bw_goto (tgt := 144) dX10_putItem_106 (by decide) ?_
    exact bw_return dX10_putItem_144 rfl ⟨rfl, h⟩
  by_cases c4 : (gw_i w 26 (a0.toNatClampNeg)) = 119
  · refine bw_lookE (off := 51) (tgt := 60) (v := 119) dX10_putItem_9 c4 (by decide) (by decide) (by decide) ?_
    replace h := h.2.2.2.2.1 c4
    refine bw_aload_n (i := 0) dX10_putItem_60 rfl rfl ?_
    refine bw_aload_n (i := 0) dX10_putItem_61 rfl rfl ?_
    refine bw_getr (r := 18) fg_BentWords_Teller_9 rfl rfl dX10_putItem_62 ?_
    refine bw_getr (r := 29) fg_BentWords_Teller_137 rfl rfl dX10_putItem_65 ?_
    refine bw_iload_n (i := 1) dX10_putItem_68 rfl rfl ?_
    obtain ⟨hi33, h⟩ := h
    refine bw_laload rfl hi33 dX10_putItem_69 ?_
    obtain ⟨Q34, hr, h⟩ := h
    refine bw_cVv (As := [.long (gw_l w 29 (a0.toNatClampNeg))]) (st := []) cv_BentWords_Teller_140 rfl rfl hr rfl rfl (Nat.le_of_ble_eq_true rfl) dX10_putItem_70 (fun w36 hv => ?_)
    replace h := h w36 hv
    clear hr
    refine bw_goto (tgt := 144) dX10_putItem_73 (by decide) ?_
    exact bw_return dX10_putItem_144 rfl ⟨rfl, h⟩
  refine bw_lookD (tgt := 144) dX10_putItem_9 (by decide) ?_ (by decide) ?_
  · intro q hq
    simp only [List.mem_cons, List.mem_nil_iff, or_false] at hq
    rcases hq with rfl | rfl | rfl | rfl | rfl <;> first | exact bw_nei c0 (by decide) | exact bw_nei c1 (by decide) | exact bw_nei c2 (by decide) | exact bw_nei c3 (by decide) | exact bw_nei c4 (by decide)
  · replace h := h.2.2.2.2.2 c0 c1 c2 c3 c4
    exact bw_return dX10_putItem_144 rfl ⟨rfl, h⟩
theorem wfX10_missingOf_10 {E : bw_E} {d : Nat} {w : bw_W} {Q : Int32 → bw_W → Prop} {l1 : Int32} {l2 : Int32} {l3 : Int32} {l4 : Int32}  (h : (vp_in l1 4) ∧
(((l3 + (gw_i w 25 (l1.toNatClampNeg))) ≤ l4 → Q l2 w) ∧ (¬ ((l3 + (gw_i w 25 (l1.toNatClampNeg))) ≤ l4) → (∃ Q2 : Bool → bw_W → Prop, bw_rb E (d + 2) mX10_isMissing [.ref 35, .int l4] w Q2 ∧ ∀ v3 w4, Q2 v3 w4 →
((v3 = false → bw_G E (d + 3) mX10_missingOf 10 [some (.ref 35), some (.int l1), some (.int l2), some (.int l3), some (.int (l4 + 1))] [] w4 (bw_qi Q)) ∧ (v3 = true → bw_G E (d + 3) mX10_missingOf 10 [some (.ref 35), some (.int l1), some (.int (l2 + 1)), some (.int l3), some (.int (l4 + 1))] [] w4 (bw_qi Q))))))) : bw_G E (d + 3) mX10_missingOf 10 [some (.ref 35), some (.int l1), some (.int l2), some (.int l3), some (.int l4)] [] w (bw_qi Q) := by
  refine bw_iload dX10_missingOf_10 rfl ?_
  refine bw_iload_n (i := 3) dX10_missingOf_12 rfl rfl ?_
  refine bw_aload_n (i := 0) dX10_missingOf_13 rfl rfl ?_
  refine bw_getr (r := 18) fg_BentWords_Teller_9 rfl rfl dX10_missingOf_14 ?_
  refine bw_getr (r := 25) fg_BentWords_Teller_53 rfl rfl dX10_missingOf_17 ?_
  refine bw_iload_n (i := 1) dX10_missingOf_20 rfl rfl ?_
  obtain ⟨hi1, h⟩ := h
  refine bw_iaload rfl hi1 dX10_missingOf_21 ?_
  refine bw_iadd dX10_missingOf_22 ?_
  refine bw_icmp_ge (tgt := 44) dX10_missingOf_23 (by decide) (fun c => ?_) (fun c => ?_)
  · replace h := h.1 (c)
    refine bw_iload_n (i := 2) dX10_missingOf_44 rfl rfl ?_
    exact bw_ireturn dX10_missingOf_45 rfl rfl ⟨_, rfl, h⟩
  · replace h := h.2 (c)
    refine bw_aload_n (i := 0) dX10_missingOf_26 rfl rfl ?_
    refine bw_iload dX10_missingOf_27 rfl ?_
    obtain ⟨Q2, hr, h⟩ := h
    refine bw_cVb (As := [.int l4]) (st := []) cv_BentWords_Teller_177 rfl rfl hr rfl rfl (Nat.le_of_ble_eq_true rfl) dX10_missingOf_29 (fun v3 w4 hv => ?_)
    replace h := h v3 w4 hv
    clear hr
    refine bw_ifb_eq (tgt := 38) dX10_missingOf_32 (by decide) (fun c => ?_) (fun c => ?_)
    · replace h := h.1 (c)
      refine bw_iinc (i := 4) (x := l4) (v := (l4 + 1)) (L' := [some (.ref 35), some (.int l1), some (.int l2), some (.int l3), some (.int (l4 + 1))]) dX10_missingOf_38 rfl rfl (Nat.le_of_ble_eq_true rfl) rfl ?_
      refine bw_goto (tgt := 10) dX10_missingOf_41 (by decide) ?_
      exact h
    · replace h := h.2 (c)
      refine bw_iinc (i := 2) (x := l2) (v := (l2 + 1)) (L' := [some (.ref 35), some (.int l1), some (.int (l2 + 1)), some (.int l3), some (.int l4)]) dX10_missingOf_35 rfl rfl (Nat.le_of_ble_eq_true rfl) rfl ?_
      refine bw_iinc (i := 4) (x := l4) (v := (l4 + 1)) (L' := [some (.ref 35), some (.int l1), some (.int (l2 + 1)), some (.int l3), some (.int (l4 + 1))]) dX10_missingOf_38 rfl rfl (Nat.le_of_ble_eq_true rfl) rfl ?_
      refine bw_goto (tgt := 10) dX10_missingOf_41 (by decide) ?_
      exact h
theorem wfX10_missingOf {E : bw_E} {d : Nat} {w : bw_W} {Q : Int32 → bw_W → Prop} {a0 : Int32}  (h : bw_G E (d + 3) mX10_missingOf 10 [some (.ref 35), some (.int a0), some (.int 0), some (.int (a0 * 8)), some (.int (a0 * 8))] [] w (bw_qi Q)) : bw_ri E (d + 3) mX10_missingOf [.ref 35, .int a0] w Q := by
  refine bw_enter rfl (Nat.le_of_ble_eq_true rfl) ?_
  refine bw_iconst (v := 0) dX10_missingOf_0 (by decide) ?_
  refine bw_istore_n (i := 2) (L' := [some (.ref 35), some (.int a0), some (.int 0), none, none]) dX10_missingOf_1 rfl (Nat.le_of_ble_eq_true rfl) rfl ?_
  refine bw_iload_n (i := 1) dX10_missingOf_2 rfl rfl ?_
  refine bw_bipush (v := 8) dX10_missingOf_3 (by decide) ?_
  refine bw_imul dX10_missingOf_5 ?_
  refine bw_istore_n (i := 3) (L' := [some (.ref 35), some (.int a0), some (.int 0), some (.int (a0 * 8)), none]) dX10_missingOf_6 rfl (Nat.le_of_ble_eq_true rfl) rfl ?_
  refine bw_iload_n (i := 3) dX10_missingOf_7 rfl rfl ?_
  refine bw_istore (i := 4) (L' := [some (.ref 35), some (.int a0), some (.int 0), some (.int (a0 * 8)), some (.int (a0 * 8))]) dX10_missingOf_8 (Nat.le_of_ble_eq_true rfl) rfl ?_
  exact h
theorem wfX10_missingItem_12 {E : bw_E} {d : Nat} {w : bw_W} {Q : Int32 → bw_W → Prop} {l1 : Int32} {l2 : Int32} {l3 : Int32} {l4 : Int32} {l5 : Int32}  (h : (vp_in l1 4) ∧
(((l4 + (gw_i w 25 (l1.toNatClampNeg))) ≤ l5 → Q (-1) w) ∧ (¬ ((l4 + (gw_i w 25 (l1.toNatClampNeg))) ≤ l5) → (∃ Q2 : Bool → bw_W → Prop, bw_rb E (d + 2) mX10_isMissing [.ref 35, .int l5] w Q2 ∧ ∀ v3 w4, Q2 v3 w4 →
((v3 = false → bw_G E (d + 3) mX10_missingItem 12 [some (.ref 35), some (.int l1), some (.int l2), some (.int l3), some (.int l4), some (.int (l5 + 1))] [] w4 (bw_qi Q)) ∧ (v3 = true → ((¬ l3 = l2 → bw_G E (d + 3) mX10_missingItem 12 [some (.ref 35), some (.int l1), some (.int l2), some (.int (l3 + 1)), some (.int l4), some (.int (l5 + 1))] [] w4 (bw_qi Q)) ∧ (l3 = l2 → Q l5 w4)))))))) : bw_G E (d + 3) mX10_missingItem 12 [some (.ref 35), some (.int l1), some (.int l2), some (.int l3), some (.int l4), some (.int l5)] [] w (bw_qi Q) := by
  refine bw_iload dX10_missingItem_12 rfl ?_
  refine bw_iload dX10_missingItem_14 rfl ?_
  refine bw_aload_n (i := 0) dX10_missingItem_16 rfl rfl ?_
  refine bw_getr (r := 18) fg_BentWords_Teller_9 rfl rfl dX10_missingItem_17 ?_
  refine bw_getr (r := 25) fg_BentWords_Teller_53 rfl rfl dX10_missingItem_20 ?_
  refine bw_iload_n (i := 1) dX10_missingItem_23 rfl rfl ?_
  obtain ⟨hi1, h⟩ := h
  refine bw_iaload rfl hi1 dX10_missingItem_24 ?_
  refine bw_iadd dX10_missingItem_25 ?_
  refine bw_icmp_ge (tgt := 55) dX10_missingItem_26 (by decide) (fun c => ?_) (fun c => ?_)
  · replace h := h.1 (c)
    refine bw_iconst (v := (-1)) dX10_missingItem_55 (by decide) ?_
    exact bw_ireturn dX10_missingItem_56 rfl rfl ⟨_, rfl, h⟩
  · replace h := h.2 (c)
    refine bw_aload_n (i := 0) dX10_missingItem_29 rfl rfl ?_
    refine bw_iload dX10_missingItem_30 rfl ?_
    obtain ⟨Q2, hr, h⟩ := h
    refine bw_cVb (As := [.int l5]) (st := []) cv_BentWords_Teller_177 rfl rfl hr rfl rfl (Nat.le_of_ble_eq_true rfl) dX10_missingItem_32 (fun v3 w4 hv => ?_)
    replace h := h v3 w4 hv
    clear hr
    refine bw_ifb_eq (tgt := 49) dX10_missingItem_35 (by decide) (fun c => ?_) (fun c => ?_)
    · replace h := h.1 (c)
      refine bw_iinc (i := 5) (x := l5) (v := (l5 + 1)) (L' := [some (.ref 35), some (.int l1), some (.int l2), some (.int l3), some (.int l4), some (.int (l5 + 1))]) dX10_missingItem_49 rfl rfl (Nat.le_of_ble_eq_true rfl) rfl ?_
      refine bw_goto (tgt := 12) dX10_missingItem_52 (by decide) ?_
      exact h
    · replace h := h.2 (c)
      refine bw_iload_n (i := 3) dX10_missingItem_38 rfl rfl ?_
      refine bw_iload_n (i := 2) dX10_missingItem_39 rfl rfl ?_
      refine bw_icmp_ne (tgt := 46) dX10_missingItem_40 (by decide) (fun c => ?_) (fun c => ?_)
      · replace h := h.1 (c)
        refine bw_iinc (i := 3) (x := l3) (v := (l3 + 1)) (L' := [some (.ref 35), some (.int l1), some (.int l2), some (.int (l3 + 1)), some (.int l4), some (.int l5)]) dX10_missingItem_46 rfl rfl (Nat.le_of_ble_eq_true rfl) rfl ?_
        refine bw_iinc (i := 5) (x := l5) (v := (l5 + 1)) (L' := [some (.ref 35), some (.int l1), some (.int l2), some (.int (l3 + 1)), some (.int l4), some (.int (l5 + 1))]) dX10_missingItem_49 rfl rfl (Nat.le_of_ble_eq_true rfl) rfl ?_
        refine bw_goto (tgt := 12) dX10_missingItem_52 (by decide) ?_
        exact h
      · replace h := h.2 (c)
        refine bw_iload dX10_missingItem_43 rfl ?_
        exact bw_ireturn dX10_missingItem_45 rfl rfl ⟨_, rfl, h⟩
theorem wfX10_missingItem {E : bw_E} {d : Nat} {w : bw_W} {Q : Int32 → bw_W → Prop} {a0 : Int32} {a1 : Int32}  (h : bw_G E (d + 3) mX10_missingItem 12 [some (.ref 35), some (.int a0), some (.int a1), some (.int 0), some (.int (a0 * 8)), some (.int (a0 * 8))] [] w (bw_qi Q)) : bw_ri E (d + 3) mX10_missingItem [.ref 35, .int a0, .int a1] w Q := by
  refine bw_enter rfl (Nat.le_of_ble_eq_true rfl) ?_
  refine bw_iconst (v := 0) dX10_missingItem_0 (by decide) ?_
  refine bw_istore_n (i := 3) (L' := [some (.ref 35), some (.int a0), some (.int a1), some (.int 0), none, none]) dX10_missingItem_1 rfl (Nat.le_of_ble_eq_true rfl) rfl ?_
  refine bw_iload_n (i := 1) dX10_missingItem_2 rfl rfl ?_
  refine bw_bipush (v := 8) dX10_missingItem_3 (by decide) ?_
  refine bw_imul dX10_missingItem_5 ?_
  refine bw_istore (i := 4) (L' := [some (.ref 35), some (.int a0), some (.int a1), some (.int 0), some (.int (a0 * 8)), none]) dX10_missingItem_6 (Nat.le_of_ble_eq_true rfl) rfl ?_
  refine bw_iload dX10_missingItem_8 rfl ?_
  refine bw_istore (i := 5) (L' := [some (.ref 35), some (.int a0), some (.int a1), some (.int 0), some (.int (a0 * 8)), some (.int (a0 * 8))]) dX10_missingItem_10 (Nat.le_of_ble_eq_true rfl) rfl ?_
  exact h
theorem wfX11_form {E : bw_E} {d : Nat} {w : bw_W} {Q : Int32 → bw_W → Prop} {a0 : Int32} {a1 : Int32} {a2 : Int32} {a3 : Int32}  (h : (∃ Q1 : Bool → bw_W → Prop, bw_rb E (d + 2) mX11_hasNoun [.ref 0, .int a0] w Q1 ∧ ∀ v2 w3, Q1 v2 w3 →
((v2 = false → Q (-1) w3) ∧ (v2 = true → (∃ Q4 : Bool → bw_W → Prop, bw_rb E (d + 2) mX11_isSlot [.int a1, .int a2] w3 Q4 ∧ ∀ v5 w6, Q4 v5 w6 →
((v5 = true → (∃ Q7 : Int64 → bw_W → Prop, bw_rl E (d + 2) mX10_formOf [.ref 35, .int a0, .int a1, .int a2] w6 Q7 ∧ ∀ v8 w9, Q7 v8 w9 →
(∃ Q10 : Int32 → bw_W → Prop, bw_ri E (d + 2) mX11_lettersOrOne [.long v8, .int a3] w9 Q10 ∧ ∀ v11 w12, Q10 v11 w12 →
Q v11 w12))) ∧ (v5 = false → Q (-1) w6))))))) : bw_ri E (d + 3) mX11_form [.ref 0, .int a0, .int a1, .int a2, .int a3] w Q := by
  refine bw_enter rfl (Nat.le_of_ble_eq_true rfl) ?_
  refine bw_aload_n (i := 0) dX11_form_0 rfl rfl ?_
  refine bw_iload_n (i := 1) dX11_form_1 rfl rfl ?_
  obtain ⟨Q1, hr, h⟩ := h
  refine bw_cVb (As := [.int a0]) (st := []) cv_BentWords_180 rfl rfl hr rfl rfl (Nat.le_of_ble_eq_true rfl) dX11_form_2 (fun v2 w3 hv => ?_)
  replace h := h v2 w3 hv
  clear hr
  refine bw_ifb_eq (tgt := 16) dX11_form_5 (by decide) (fun c => ?_) (fun c => ?_)
  · replace h := h.1 (c)
    refine bw_iconst (v := (-1)) dX11_form_16 (by decide) ?_
    exact bw_ireturn dX11_form_17 rfl rfl ⟨_, rfl, h⟩
  · replace h := h.2 (c)
    refine bw_iload_n (i := 2) dX11_form_8 rfl rfl ?_
    refine bw_iload_n (i := 3) dX11_form_9 rfl rfl ?_
    obtain ⟨Q4, hr, h⟩ := h
    refine bw_cSb (As := [.int a1, .int a2]) (st := []) cs_BentWords_200 hr rfl rfl (Nat.le_of_ble_eq_true rfl) dX11_form_10 (fun v5 w6 hv => ?_)
    replace h := h v5 w6 hv
    clear hr
    refine bw_ifb_ne (tgt := 18) dX11_form_13 (by decide) (fun c => ?_) (fun c => ?_)
    · replace h := h.1 (c)
      refine bw_aload_n (i := 0) dX11_form_18 rfl rfl ?_
      refine bw_getr (r := 35) fg_BentWords_70 rfl rfl dX11_form_19 ?_
      refine bw_iload_n (i := 1) dX11_form_22 rfl rfl ?_
      refine bw_iload_n (i := 2) dX11_form_23 rfl rfl ?_
      refine bw_iload_n (i := 3) dX11_form_24 rfl rfl ?_
      obtain ⟨Q7, hr, h⟩ := h
      refine bw_cVl (As := [.int a0, .int a1, .int a2]) (st := []) cv_BentWords_204 rfl rfl hr rfl rfl (Nat.le_of_ble_eq_true rfl) dX11_form_25 (fun v8 w9 hv => ?_)
      replace h := h v8 w9 hv
      clear hr
      refine bw_iload dX11_form_28 rfl ?_
      obtain ⟨Q10, hr, h⟩ := h
      refine bw_cSi (As := [.long v8, .int a3]) (st := []) cs_BentWords_208 hr rfl rfl (Nat.le_of_ble_eq_true rfl) dX11_form_30 (fun v11 w12 hv => ?_)
      replace h := h v11 w12 hv
      clear hr
      exact bw_ireturn dX11_form_33 rfl rfl ⟨_, rfl, h⟩
    · replace h := h.2 (c)
      refine bw_iconst (v := (-1)) dX11_form_16 (by decide) ?_
      exact bw_ireturn dX11_form_17 rfl rfl ⟨_, rfl, h⟩
theorem wfX11_word {E : bw_E} {d : Nat} {w : bw_W} {Q : Int32 → bw_W → Prop} {a0 : Bool} {a1 : Int32} {a2 : Int32} {a3 : Int32} {a4 : Int32}  (h : (((gw_i w 0 5) = 0 → Q (-1) w) ∧ (¬ ((gw_i w 0 5) = 0) → (∃ Q1 : Bool → bw_W → Prop, bw_rb E (d + 2) mX11_isSlot [.int a1, .int a2] w Q1 ∧ ∀ v2 w3, Q1 v2 w3 →
((v2 = false → Q (-1) w3) ∧ (v2 = true → ((a3 < 0 → Q (-1) w3) ∧ (¬ (a3 < 0) → ((a3 < 3 → ((a0 = false → (∃ Q4 : Int64 → bw_W → Prop, bw_rl E (d + 2) mX3_boundWord [.ref 22, .int a1, .int a2, .int a3] w3 Q4 ∧ ∀ v5 w6, Q4 v5 w6 →
(∃ Q7 : Int32 → bw_W → Prop, bw_ri E (d + 2) mX11_lettersOrOne [.long v5, .int a4] w6 Q7 ∧ ∀ v8 w9, Q7 v8 w9 →
Q v8 w9))) ∧ (a0 = true → (∃ Q10 : Int64 → bw_W → Prop, bw_rl E (d + 2) mX3_boundWord [.ref 23, .int a1, .int a2, .int a3] w3 Q10 ∧ ∀ v11 w12, Q10 v11 w12 →
(∃ Q13 : Int32 → bw_W → Prop, bw_ri E (d + 2) mX11_lettersOrOne [.long v11, .int a4] w12 Q13 ∧ ∀ v14 w15, Q13 v14 w15 →
Q v14 w15))))) ∧ (¬ (a3 < 3) → Q (-1) w3)))))))))) : bw_ri E (d + 3) mX11_word [.ref 0, .int (bw_b a0), .int a1, .int a2, .int a3, .int a4] w Q := by
  refine bw_enter rfl (Nat.le_of_ble_eq_true rfl) ?_
  refine bw_aload_n (i := 0) dX11_word_0 rfl rfl ?_
  refine bw_geti fg_BentWords_140 rfl dX11_word_1 ?_
  refine bw_if_eq (tgt := 26) dX11_word_4 (by decide) (fun c => ?_) (fun c => ?_)
  · replace h := h.1 (c)
    refine bw_iconst (v := (-1)) dX11_word_26 (by decide) ?_
    exact bw_ireturn dX11_word_27 rfl rfl ⟨_, rfl, h⟩
  · replace h := h.2 (c)
    refine bw_iload_n (i := 2) dX11_word_7 rfl rfl ?_
    refine bw_iload_n (i := 3) dX11_word_8 rfl rfl ?_
    obtain ⟨Q1, hr, h⟩ := h
    refine bw_cSb (As := [.int a1, .int a2]) (st := []) cs_BentWords_200 hr rfl rfl (Nat.le_of_ble_eq_true rfl) dX11_word_9 (fun v2 w3 hv => ?_)
    replace h := h v2 w3 hv
    clear hr
    refine bw_ifb_eq (tgt := 26) dX11_word_12 (by decide) (fun c => ?_) (fun c => ?_)
    · replace h := h.1 (c)
      refine bw_iconst (v := (-1)) dX11_word_26 (by decide) ?_
      exact bw_ireturn dX11_word_27 rfl rfl ⟨_, rfl, h⟩
    · replace h := h.2 (c)
      refine bw_iload dX11_word_15 rfl ?_
      refine bw_if_lt (tgt := 26) dX11_word_17 (by decide) (fun c => ?_) (fun c => ?_)
      · replace h := h.1 (c)
        refine bw_iconst (v := (-1)) dX11_word_26 (by decide) ?_
        exact bw_ireturn dX11_word_27 rfl rfl ⟨_, rfl, h⟩
      · replace h := h.2 (c)
        refine bw_iload dX11_word_20 rfl ?_
        refine bw_iconst (v := 3) dX11_word_22 (by decide) ?_
        refine bw_icmp_lt (tgt := 28) dX11_word_23 (by decide) (fun c => ?_) (fun c => ?_)
        · replace h := h.1 (c)
          refine bw_iload_n (i := 1) dX11_word_28 rfl rfl ?_
          refine bw_ifb_eq (tgt := 42) dX11_word_29 (by decide) (fun c => ?_) (fun c => ?_)
          · replace h := h.1 (c)
            refine bw_aload_n (i := 0) dX11_word_42 rfl rfl ?_
            refine bw_getr (r := 18) fg_BentWords_44 rfl rfl dX11_word_43 ?_
            refine bw_getr (r := 22) fg_BentWords_159 rfl rfl dX11_word_46 ?_
            refine bw_astore (i := 6) (L' := [some (.ref 0), some (.int (bw_b a0)), some (.int a1), some (.int a2), some (.int a3), some (.int a4), some (.ref 22)]) dX11_word_49 (Nat.le_of_ble_eq_true rfl) rfl ?_
            refine bw_aload dX11_word_51 rfl ?_
            refine bw_iload_n (i := 2) dX11_word_53 rfl rfl ?_
            refine bw_iload_n (i := 3) dX11_word_54 rfl rfl ?_
            refine bw_iload dX11_word_55 rfl ?_
            obtain ⟨Q4, hr, h⟩ := h
            refine bw_cSl (As := [.ref 22, .int a1, .int a2, .int a3]) (st := []) cs_BentWords_216 hr rfl rfl (Nat.le_of_ble_eq_true rfl) dX11_word_57 (fun v5 w6 hv => ?_)
            replace h := h v5 w6 hv
            clear hr
            refine bw_iload dX11_word_60 rfl ?_
            obtain ⟨Q7, hr, h⟩ := h
            refine bw_cSi (As := [.long v5, .int a4]) (st := []) cs_BentWords_208 hr rfl rfl (Nat.le_of_ble_eq_true rfl) dX11_word_62 (fun v8 w9 hv => ?_)
            replace h := h v8 w9 hv
            clear hr
            exact bw_ireturn dX11_word_65 rfl rfl ⟨_, rfl, h⟩
          · replace h := h.2 (c)
            refine bw_aload_n (i := 0) dX11_word_32 rfl rfl ?_
            refine bw_getr (r := 18) fg_BentWords_44 rfl rfl dX11_word_33 ?_
            refine bw_getr (r := 23) fg_BentWords_167 rfl rfl dX11_word_36 ?_
            refine bw_goto (tgt := 49) dX11_word_39 (by decide) ?_
            refine bw_astore (i := 6) (L' := [some (.ref 0), some (.int (bw_b a0)), some (.int a1), some (.int a2), some (.int a3), some (.int a4), some (.ref 23)]) dX11_word_49 (Nat.le_of_ble_eq_true rfl) rfl ?_
            refine bw_aload dX11_word_51 rfl ?_
            refine bw_iload_n (i := 2) dX11_word_53 rfl rfl ?_
            refine bw_iload_n (i := 3) dX11_word_54 rfl rfl ?_
            refine bw_iload dX11_word_55 rfl ?_
            obtain ⟨Q10, hr, h⟩ := h
            refine bw_cSl (As := [.ref 23, .int a1, .int a2, .int a3]) (st := []) cs_BentWords_216 hr rfl rfl (Nat.le_of_ble_eq_true rfl) dX11_word_57 (fun v11 w12 hv => ?_)
            replace h := h v11 w12 hv
            clear hr
            refine bw_iload dX11_word_60 rfl ?_
            obtain ⟨Q13, hr, h⟩ := h
            refine bw_cSi (As := [.long v11, .int a4]) (st := []) cs_BentWords_208 hr rfl rfl (Nat.le_of_ble_eq_true rfl) dX11_word_62 (fun v14 w15 hv => ?_)
            replace h := h v14 w15 hv
            clear hr
            exact bw_ireturn dX11_word_65 rfl rfl ⟨_, rfl, h⟩
        · replace h := h.2 (c)
          refine bw_iconst (v := (-1)) dX11_word_26 (by decide) ?_
          exact bw_ireturn dX11_word_27 rfl rfl ⟨_, rfl, h⟩
theorem wfX11_slotsOf_6 {E : bw_E} {d : Nat} {w : bw_W} {Q : Int32 → bw_W → Prop} {l1 : Int32} {l2 : Int64} {l4 : Int32} {l5 : Int32}  (h : ((8 ≤ l5 → Q l4 w) ∧ (¬ (8 ≤ l5) → (∃ Q1 : Int64 → bw_W → Prop, bw_rl E (d + 2) mX10_formAt [.ref 35, .int l1, .int l5] w Q1 ∧ ∀ v2 w3, Q1 v2 w3 →
((¬ v2 = l2 → bw_G E (d + 3) mX11_slotsOf 6 [some (.ref 0), some (.int l1), some (.long l2), none, some (.int l4), some (.int (l5 + 1))] [] w3 (bw_qi Q)) ∧ (v2 = l2 → bw_G E (d + 3) mX11_slotsOf 6 [some (.ref 0), some (.int l1), some (.long l2), none, some (.int (l4 ||| ((1 : Int32) <<< (l5 &&& 31)))), some (.int (l5 + 1))] [] w3 (bw_qi Q))))))) : bw_G E (d + 3) mX11_slotsOf 6 [some (.ref 0), some (.int l1), some (.long l2), none, some (.int l4), some (.int l5)] [] w (bw_qi Q) := by
  refine bw_iload dX11_slotsOf_6 rfl ?_
  refine bw_bipush (v := 8) dX11_slotsOf_8 (by decide) ?_
  refine bw_icmp_ge (tgt := 43) dX11_slotsOf_10 (by decide) (fun c => ?_) (fun c => ?_)
  · replace h := h.1 (c)
    refine bw_iload dX11_slotsOf_43 rfl ?_
    exact bw_ireturn dX11_slotsOf_45 rfl rfl ⟨_, rfl, h⟩
  · replace h := h.2 (c)
    refine bw_aload_n (i := 0) dX11_slotsOf_13 rfl rfl ?_
    refine bw_getr (r := 35) fg_BentWords_70 rfl rfl dX11_slotsOf_14 ?_
    refine bw_iload_n (i := 1) dX11_slotsOf_17 rfl rfl ?_
    refine bw_iload dX11_slotsOf_18 rfl ?_
    obtain ⟨Q1, hr, h⟩ := h
    refine bw_cVl (As := [.int l1, .int l5]) (st := []) cv_BentWords_282 rfl rfl hr rfl rfl (Nat.le_of_ble_eq_true rfl) dX11_slotsOf_20 (fun v2 w3 hv => ?_)
    replace h := h v2 w3 hv
    clear hr
    refine bw_lload_n (i := 2) dX11_slotsOf_23 rfl rfl ?_
    refine bw_lcmp_ne (tgt := 37) dX11_slotsOf_24 dX11_slotsOf_25 (by decide) (fun c => ?_) (fun c => ?_)
    · replace h := h.1 (c)
      refine bw_iinc (i := 5) (x := l5) (v := (l5 + 1)) (L' := [some (.ref 0), some (.int l1), some (.long l2), none, some (.int l4), some (.int (l5 + 1))]) dX11_slotsOf_37 rfl rfl (Nat.le_of_ble_eq_true rfl) rfl ?_
      refine bw_goto (tgt := 6) dX11_slotsOf_40 (by decide) ?_
      exact h
    · replace h := h.2 (c)
      refine bw_iload dX11_slotsOf_28 rfl ?_
      refine bw_iconst (v := 1) dX11_slotsOf_30 (by decide) ?_
      refine bw_iload dX11_slotsOf_31 rfl ?_
      refine bw_ishl dX11_slotsOf_33 ?_
      refine bw_ior dX11_slotsOf_34 ?_
      refine bw_istore (i := 4) (L' := [some (.ref 0), some (.int l1), some (.long l2), none, some (.int (l4 ||| ((1 : Int32) <<< (l5 &&& 31)))), some (.int l5)]) dX11_slotsOf_35 (Nat.le_of_ble_eq_true rfl) rfl ?_
      refine bw_iinc (i := 5) (x := l5) (v := (l5 + 1)) (L' := [some (.ref 0), some (.int l1), some (.long l2), none, some (.int (l4 ||| ((1 : Int32) <<< (l5 &&& 31)))), some (.int (l5 + 1))]) dX11_slotsOf_37 rfl rfl (Nat.le_of_ble_eq_true rfl) rfl ?_
      refine bw_goto (tgt := 6) dX11_slotsOf_40 (by decide) ?_
      exact h
theorem wfX11_slotsOf {E : bw_E} {d : Nat} {w : bw_W} {Q : Int32 → bw_W → Prop} {a0 : Int32} {a1 : Int64}  (h : bw_G E (d + 3) mX11_slotsOf 6 [some (.ref 0), some (.int a0), some (.long a1), none, some (.int 0), some (.int 0)] [] w (bw_qi Q)) : bw_ri E (d + 3) mX11_slotsOf [.ref 0, .int a0, .long a1] w Q := by
  refine bw_enter rfl (Nat.le_of_ble_eq_true rfl) ?_
  refine bw_iconst (v := 0) dX11_slotsOf_0 (by decide) ?_
  refine bw_istore (i := 4) (L' := [some (.ref 0), some (.int a0), some (.long a1), none, some (.int 0), none]) dX11_slotsOf_1 (Nat.le_of_ble_eq_true rfl) rfl ?_
  refine bw_iconst (v := 0) dX11_slotsOf_3 (by decide) ?_
  refine bw_istore (i := 5) (L' := [some (.ref 0), some (.int a0), some (.long a1), none, some (.int 0), some (.int 0)]) dX11_slotsOf_4 (Nat.le_of_ble_eq_true rfl) rfl ?_
  exact h
theorem wfX12_takesSign {E : bw_E} {d : Nat} {w : bw_W} {Q : Bool → bw_W → Prop} {a0 : Int32}  (h : (∃ Q1 : Bool → bw_W → Prop, bw_rb E (d + 2) mX12_isSign [.ref 50, .int a0] w Q1 ∧ ∀ v2 w3, Q1 v2 w3 →
((v2 = false → Q v2 w3) ∧ (v2 = true → (∃ Q4 : bw_W → Prop, bw_rv E (d + 2) mX12_next [.ref 50] w3 Q4 ∧ ∀ w6, Q4 w6 →
Q v2 w6))))) : bw_rb E (d + 3) mX12_takesSign [.ref 50, .int a0] w Q := by
  refine bw_enter rfl (Nat.le_of_ble_eq_true rfl) ?_
  refine bw_aload_n (i := 0) dX12_takesSign_0 rfl rfl ?_
  refine bw_iload_n (i := 1) dX12_takesSign_1 rfl rfl ?_
  obtain ⟨Q1, hr, h⟩ := h
  refine bw_cVb (As := [.int a0]) (st := []) cv_BentWordsModel_157 rfl rfl hr rfl rfl (Nat.le_of_ble_eq_true rfl) dX12_takesSign_2 (fun v2 w3 hv => ?_)
  replace h := h v2 w3 hv
  clear hr
  refine bw_istore_n (i := 2) (L' := [some (.ref 50), some (.int a0), some (.int (bw_b v2))]) dX12_takesSign_5 rfl (Nat.le_of_ble_eq_true rfl) rfl ?_
  refine bw_iload_n (i := 2) dX12_takesSign_6 rfl rfl ?_
  refine bw_ifb_eq (tgt := 14) dX12_takesSign_7 (by decide) (fun c => ?_) (fun c => ?_)
  · replace h := h.1 (c)
    refine bw_iload_n (i := 2) dX12_takesSign_14 rfl rfl ?_
    exact bw_ireturn dX12_takesSign_15 rfl (bw_nb _) ⟨_, rfl, h⟩
  · replace h := h.2 (c)
    refine bw_aload_n (i := 0) dX12_takesSign_10 rfl rfl ?_
    obtain ⟨Q4, hr, h⟩ := h
    refine bw_cVv (As := []) (st := []) cv_BentWordsModel_160 rfl rfl hr rfl rfl (Nat.le_of_ble_eq_true rfl) dX12_takesSign_11 (fun w6 hv => ?_)
    replace h := h w6 hv
    clear hr
    refine bw_iload_n (i := 2) dX12_takesSign_14 rfl rfl ?_
    exact bw_ireturn dX12_takesSign_15 rfl (bw_nb _) ⟨_, rfl, h⟩
theorem wfX12_anyWord {E : bw_E} {d : Nat} {w : bw_W} {Q : Int64 → bw_W → Prop}   (h : ((¬ (gw_i w 50 10) = (-1) → (∃ Q1 : bw_W → Prop, bw_rv E (d + 2) mX12_bad [.ref 50] w Q1 ∧ ∀ w3, Q1 w3 →
Q 0 w3)) ∧ ((gw_i w 50 10) = (-1) → (∃ Q4 : Bool → bw_W → Prop, bw_rb E (d + 2) mX12_isGood [.ref 50] w Q4 ∧ ∀ v5 w6, Q4 v5 w6 →
((v5 = true → (∃ Q7 : bw_W → Prop, bw_rv E (d + 2) mX12_next [.ref 50] w6 Q7 ∧ ∀ w9, Q7 w9 →
Q (gw_l w6 50 11) w9)) ∧ (v5 = false → (∃ Q10 : bw_W → Prop, bw_rv E (d + 2) mX12_bad [.ref 50] w6 Q10 ∧ ∀ w12, Q10 w12 →
Q 0 w12))))))) : bw_rl E (d + 3) mX12_anyWord [.ref 50] w Q := by
  refine bw_enter rfl (Nat.le_of_ble_eq_true rfl) ?_
  refine bw_aload_n (i := 0) dX12_anyWord_0 rfl rfl ?_
  refine bw_geti fg_BentWordsModel_150 rfl dX12_anyWord_1 ?_
  refine bw_iconst (v := (-1)) dX12_anyWord_4 (by decide) ?_
  refine bw_icmp_ne (tgt := 15) dX12_anyWord_5 (by decide) (fun c => ?_) (fun c => ?_)
  · replace h := h.1 (c)
    refine bw_aload_n (i := 0) dX12_anyWord_15 rfl rfl ?_
    obtain ⟨Q1, hr, h⟩ := h
    refine bw_cVv (As := []) (st := []) cv_BentWordsModel_167 rfl rfl hr rfl rfl (Nat.le_of_ble_eq_true rfl) dX12_anyWord_16 (fun w3 hv => ?_)
    replace h := h w3 hv
    clear hr
    refine bw_lconst (v := 0) dX12_anyWord_19 rfl ?_
    exact bw_lreturn dX12_anyWord_20 rfl ⟨_, rfl, h⟩
  · replace h := h.2 (c)
    refine bw_aload_n (i := 0) dX12_anyWord_8 rfl rfl ?_
    obtain ⟨Q4, hr, h⟩ := h
    refine bw_cVb (As := []) (st := []) cv_BentWordsModel_163 rfl rfl hr rfl rfl (Nat.le_of_ble_eq_true rfl) dX12_anyWord_9 (fun v5 w6 hv => ?_)
    replace h := h v5 w6 hv
    clear hr
    refine bw_ifb_ne (tgt := 21) dX12_anyWord_12 (by decide) (fun c => ?_) (fun c => ?_)
    · replace h := h.1 (c)
      refine bw_aload_n (i := 0) dX12_anyWord_21 rfl rfl ?_
      refine bw_getl fg_BentWordsModel_107 rfl dX12_anyWord_22 ?_
      refine bw_lstore_n (i := 1) (L' := [some (.ref 50), some (.long (gw_l w6 50 11)), none]) dX12_anyWord_25 rfl (Nat.le_of_ble_eq_true rfl) rfl ?_
      refine bw_aload_n (i := 0) dX12_anyWord_26 rfl rfl ?_
      obtain ⟨Q7, hr, h⟩ := h
      refine bw_cVv (As := []) (st := []) cv_BentWordsModel_160 rfl rfl hr rfl rfl (Nat.le_of_ble_eq_true rfl) dX12_anyWord_27 (fun w9 hv => ?_)
      replace h := h w9 hv
      clear hr
      refine bw_lload_n (i := 1) dX12_anyWord_30 rfl rfl ?_
      exact bw_lreturn dX12_anyWord_31 rfl ⟨_, rfl, h⟩
    · replace h := h.2 (c)
      refine bw_aload_n (i := 0) dX12_anyWord_15 rfl rfl ?_
      obtain ⟨Q10, hr, h⟩ := h
      refine bw_cVv (As := []) (st := []) cv_BentWordsModel_167 rfl rfl hr rfl rfl (Nat.le_of_ble_eq_true rfl) dX12_anyWord_16 (fun w12 hv => ?_)
      replace h := h w12 hv
      clear hr
      refine bw_lconst (v := 0) dX12_anyWord_19 rfl ?_
      exact bw_lreturn dX12_anyWord_20 rfl ⟨_, rfl, h⟩
theorem wfX12_numberOf {E : bw_E} {d : Nat} {w : bw_W} {Q : Int32 → bw_W → Prop} {a0 : Int32} {a1 : Int32}  (h : ((¬ (gw_i w 50 10) = (-1) → (∃ Q1 : bw_W → Prop, bw_rv E (d + 2) mX12_bad [.ref 50] w Q1 ∧ ∀ w3, Q1 w3 →
Q 0 w3)) ∧ ((gw_i w 50 10) = (-1) → ((¬ (gw_i w 50 4) = 2 → (∃ Q4 : bw_W → Prop, bw_rv E (d + 2) mX12_bad [.ref 50] w Q4 ∧ ∀ w6, Q4 w6 →
Q 0 w6)) ∧ ((gw_i w 50 4) = 2 → ((a0 < (gw_i w 50 7) → (∃ Q7 : bw_W → Prop, bw_rv E (d + 2) mX12_bad [.ref 50] w Q7 ∧ ∀ w9, Q7 w9 →
Q 0 w9)) ∧ (¬ (a0 < (gw_i w 50 7)) → (((gw_i w 50 6) ≤ a1 → (∃ Q10 : bw_W → Prop, bw_rv E (d + 2) mX12_next [.ref 50] w Q10 ∧ ∀ w12, Q10 w12 →
Q (gw_i w 50 6) w12)) ∧ (¬ ((gw_i w 50 6) ≤ a1) → (∃ Q13 : bw_W → Prop, bw_rv E (d + 2) mX12_bad [.ref 50] w Q13 ∧ ∀ w15, Q13 w15 →
Q 0 w15)))))))))) : bw_ri E (d + 3) mX12_numberOf [.ref 50, .int a0, .int a1] w Q := by
  refine bw_enter rfl (Nat.le_of_ble_eq_true rfl) ?_
  refine bw_aload_n (i := 0) dX12_numberOf_0 rfl rfl ?_
  refine bw_geti fg_BentWordsModel_150 rfl dX12_numberOf_1 ?_
  refine bw_iconst (v := (-1)) dX12_numberOf_4 (by decide) ?_
  refine bw_icmp_ne (tgt := 32) dX12_numberOf_5 (by decide) (fun c => ?_) (fun c => ?_)
  · replace h := h.1 (c)
    refine bw_aload_n (i := 0) dX12_numberOf_32 rfl rfl ?_
    obtain ⟨Q1, hr, h⟩ := h
    refine bw_cVv (As := []) (st := []) cv_BentWordsModel_167 rfl rfl hr rfl rfl (Nat.le_of_ble_eq_true rfl) dX12_numberOf_33 (fun w3 hv => ?_)
    replace h := h w3 hv
    clear hr
    refine bw_iconst (v := 0) dX12_numberOf_36 (by decide) ?_
    exact bw_ireturn dX12_numberOf_37 rfl rfl ⟨_, rfl, h⟩
  · replace h := h.2 (c)
    refine bw_aload_n (i := 0) dX12_numberOf_8 rfl rfl ?_
    refine bw_geti fg_BentWordsModel_126 rfl dX12_numberOf_9 ?_
    refine bw_iconst (v := 2) dX12_numberOf_12 (by decide) ?_
    refine bw_icmp_ne (tgt := 32) dX12_numberOf_13 (by decide) (fun c => ?_) (fun c => ?_)
    · replace h := h.1 (c)
      refine bw_aload_n (i := 0) dX12_numberOf_32 rfl rfl ?_
      obtain ⟨Q4, hr, h⟩ := h
      refine bw_cVv (As := []) (st := []) cv_BentWordsModel_167 rfl rfl hr rfl rfl (Nat.le_of_ble_eq_true rfl) dX12_numberOf_33 (fun w6 hv => ?_)
      replace h := h w6 hv
      clear hr
      refine bw_iconst (v := 0) dX12_numberOf_36 (by decide) ?_
      exact bw_ireturn dX12_numberOf_37 rfl rfl ⟨_, rfl, h⟩
    · replace h := h.2 (c)
      refine bw_aload_n (i := 0) dX12_numberOf_16 rfl rfl ?_
      refine bw_geti fg_BentWordsModel_132 rfl dX12_numberOf_17 ?_
      refine bw_iload_n (i := 1) dX12_numberOf_20 rfl rfl ?_
      refine bw_icmp_gt (tgt := 32) dX12_numberOf_21 (by decide) (fun c => ?_) (fun c => ?_)
      · replace h := h.1 (c)
        refine bw_aload_n (i := 0) dX12_numberOf_32 rfl rfl ?_
        obtain ⟨Q7, hr, h⟩ := h
        refine bw_cVv (As := []) (st := []) cv_BentWordsModel_167 rfl rfl hr rfl rfl (Nat.le_of_ble_eq_true rfl) dX12_numberOf_33 (fun w9 hv => ?_)
        replace h := h w9 hv
        clear hr
        refine bw_iconst (v := 0) dX12_numberOf_36 (by decide) ?_
        exact bw_ireturn dX12_numberOf_37 rfl rfl ⟨_, rfl, h⟩
      · replace h := h.2 (c)
        refine bw_aload_n (i := 0) dX12_numberOf_24 rfl rfl ?_
        refine bw_geti fg_BentWordsModel_129 rfl dX12_numberOf_25 ?_
        refine bw_iload_n (i := 2) dX12_numberOf_28 rfl rfl ?_
        refine bw_icmp_le (tgt := 38) dX12_numberOf_29 (by decide) (fun c => ?_) (fun c => ?_)
        · replace h := h.1 (c)
          refine bw_aload_n (i := 0) dX12_numberOf_38 rfl rfl ?_
          refine bw_geti fg_BentWordsModel_129 rfl dX12_numberOf_39 ?_
          refine bw_istore_n (i := 3) (L' := [some (.ref 50), some (.int a0), some (.int a1), some (.int (gw_i w 50 6))]) dX12_numberOf_42 rfl (Nat.le_of_ble_eq_true rfl) rfl ?_
          refine bw_aload_n (i := 0) dX12_numberOf_43 rfl rfl ?_
          obtain ⟨Q10, hr, h⟩ := h
          refine bw_cVv (As := []) (st := []) cv_BentWordsModel_160 rfl rfl hr rfl rfl (Nat.le_of_ble_eq_true rfl) dX12_numberOf_44 (fun w12 hv => ?_)
          replace h := h w12 hv
          clear hr
          refine bw_iload_n (i := 3) dX12_numberOf_47 rfl rfl ?_
          exact bw_ireturn dX12_numberOf_48 rfl rfl ⟨_, rfl, h⟩
        · replace h := h.2 (c)
          refine bw_aload_n (i := 0) dX12_numberOf_32 rfl rfl ?_
          obtain ⟨Q13, hr, h⟩ := h
          refine bw_cVv (As := []) (st := []) cv_BentWordsModel_167 rfl rfl hr rfl rfl (Nat.le_of_ble_eq_true rfl) dX12_numberOf_33 (fun w15 hv => ?_)
          replace h := h w15 hv
          clear hr
          refine bw_iconst (v := 0) dX12_numberOf_36 (by decide) ?_
          exact bw_ireturn dX12_numberOf_37 rfl rfl ⟨_, rfl, h⟩
theorem wfX12_formOf {E : bw_E} {d : Nat} {w : bw_W} {Q : Int64 → bw_W → Prop} {a0 : Int32} {a1 : Int32} {a2 : Int32}  (h : (∃ Q1 : Int32 → bw_W → Prop, bw_ri E (d + 2) mX12_defaultOf [.ref 50, .int a0, .int a1, .int a2] w Q1 ∧ ∀ v2 w3, Q1 v2 w3 →
((v2 = 0 → (∃ Q4 : Int64 → bw_W → Prop, bw_rl E (d + 2) mX12_told [.ref 50, .int a0, .int a1, .int a2] w3 Q4 ∧ ∀ v5 w6, Q4 v5 w6 →
Q v5 w6)) ∧ (v2 = 1 → (∃ Q7 : Int64 → bw_W → Prop, bw_rl E (d + 2) mX12_told [.ref 50, .int a0, .int 0, .int a2] w3 Q7 ∧ ∀ v8 w9, Q7 v8 w9 →
Q v8 w9)) ∧ (v2 = 2 → (∃ Q10 : Int64 → bw_W → Prop, bw_rl E (d + 2) mX12_told [.ref 50, .int a0, .int a1, .int 0] w3 Q10 ∧ ∀ v11 w12, Q10 v11 w12 →
Q v11 w12)) ∧ (v2 = 3 → (∃ Q13 : Int64 → bw_W → Prop, bw_rl E (d + 2) mX12_told [.ref 50, .int a0, .int 0, .int 0] w3 Q13 ∧ ∀ v14 w15, Q13 v14 w15 →
Q v14 w15)) ∧ (v2.toInt < 0 ∨ 3 < v2.toInt → (vp_in a0 6) ∧
Q (gw_l w3 65 (a0.toNatClampNeg)) w3)))) : bw_rl E (d + 3) mX12_formOf [.ref 50, .int a0, .int a1, .int a2] w Q := by
  refine bw_enter rfl (Nat.le_of_ble_eq_true rfl) ?_
  refine bw_aload_n (i := 0) dX12_formOf_0 rfl rfl ?_
  refine bw_iload_n (i := 1) dX12_formOf_1 rfl rfl ?_
  refine bw_iload_n (i := 2) dX12_formOf_2 rfl rfl ?_
  refine bw_iload_n (i := 3) dX12_formOf_3 rfl rfl ?_
  obtain ⟨Q1, hr, h⟩ := h
  refine bw_cVi (As := [.int a0, .int a1, .int a2]) (st := []) cv_BentWordsModel_300 rfl rfl hr rfl rfl (Nat.le_of_ble_eq_true rfl) dX12_formOf_4 (fun v2 w3 hv => ?_)
  replace h := h v2 w3 hv
  clear hr
  refine bw_tabsw dX12_formOf_7 [36, 44, 52, 60] 68 (by decide) rfl rfl (fun j hj hx => ?_) (fun hx => ?_)
  · match j, hj, hx with
    | 0, _, hx =>
      replace h := h.1 (bw_ti hx (by decide))
      refine bw_aload_n (i := 0) dX12_formOf_36 rfl rfl ?_
      refine bw_iload_n (i := 1) dX12_formOf_37 rfl rfl ?_
      refine bw_iload_n (i := 2) dX12_formOf_38 rfl rfl ?_
      refine bw_iload_n (i := 3) dX12_formOf_39 rfl rfl ?_
      obtain ⟨Q4, hr, h⟩ := h
      refine bw_cVl (As := [.int a0, .int a1, .int a2]) (st := []) cv_BentWordsModel_296 rfl rfl hr rfl rfl (Nat.le_of_ble_eq_true rfl) dX12_formOf_40 (fun v5 w6 hv => ?_)
      replace h := h v5 w6 hv
      clear hr
      exact bw_lreturn dX12_formOf_43 rfl ⟨_, rfl, h⟩
    | 1, _, hx =>
      replace h := h.2.1 (bw_ti hx (by decide))
      refine bw_aload_n (i := 0) dX12_formOf_44 rfl rfl ?_
      refine bw_iload_n (i := 1) dX12_formOf_45 rfl rfl ?_
      refine bw_iconst (v := 0) dX12_formOf_46 (by decide) ?_
      refine bw_iload_n (i := 3) dX12_formOf_47 rfl rfl ?_
      obtain ⟨Q7, hr, h⟩ := h
      refine bw_cVl (As := [.int a0, .int 0, .int a2]) (st := []) cv_BentWordsModel_296 rfl rfl hr rfl rfl (Nat.le_of_ble_eq_true rfl) dX12_formOf_48 (fun v8 w9 hv => ?_)
      replace h := h v8 w9 hv
      clear hr
      exact bw_lreturn dX12_formOf_51 rfl ⟨_, rfl, h⟩
    | 2, _, hx =>
      replace h := h.2.2.1 (bw_ti hx (by decide))
      refine bw_aload_n (i := 0) dX12_formOf_52 rfl rfl ?_
      refine bw_iload_n (i := 1) dX12_formOf_53 rfl rfl ?_
      refine bw_iload_n (i := 2) dX12_formOf_54 rfl rfl ?_
      refine bw_iconst (v := 0) dX12_formOf_55 (by decide) ?_
      obtain ⟨Q10, hr, h⟩ := h
      refine bw_cVl (As := [.int a0, .int a1, .int 0]) (st := []) cv_BentWordsModel_296 rfl rfl hr rfl rfl (Nat.le_of_ble_eq_true rfl) dX12_formOf_56 (fun v11 w12 hv => ?_)
      replace h := h v11 w12 hv
      clear hr
      exact bw_lreturn dX12_formOf_59 rfl ⟨_, rfl, h⟩
    | 3, _, hx =>
      replace h := h.2.2.2.1 (bw_ti hx (by decide))
      refine bw_aload_n (i := 0) dX12_formOf_60 rfl rfl ?_
      refine bw_iload_n (i := 1) dX12_formOf_61 rfl rfl ?_
      refine bw_iconst (v := 0) dX12_formOf_62 (by decide) ?_
      refine bw_iconst (v := 0) dX12_formOf_63 (by decide) ?_
      obtain ⟨Q13, hr, h⟩ := h
      refine bw_cVl (As := [.int a0, .int 0, .int 0]) (st := []) cv_BentWordsModel_296 rfl rfl hr rfl rfl (Nat.le_of_ble_eq_true rfl) dX12_formOf_64 (fun v14 w15 hv => ?_)
      replace h := h v14 w15 hv
      clear hr
      exact bw_lreturn dX12_formOf_67 rfl ⟨_, rfl, h⟩
    | j + 4, hj, _ => exact absurd hj (by simp)
  · replace h := h.2.2.2.2 hx
    refine bw_aload_n (i := 0) dX12_formOf_68 rfl rfl ?_
    refine bw_getr (r := 65) fg_BentWordsModel_53 rfl rfl dX12_formOf_69 ?_
    refine bw_iload_n (i := 1) dX12_formOf_72 rfl rfl ?_
    obtain ⟨hi16, h⟩ := h
    refine bw_laload rfl hi16 dX12_formOf_73 ?_
    exact bw_lreturn dX12_formOf_74 rfl ⟨_, rfl, h⟩
theorem wfX12_whyItemNot {E : bw_E} {d : Nat} {w : bw_W} {Q : Int32 → bw_W → Prop} {a0 : Int32} {a1 : Int32} {a2 : Int32}  (h : ((¬ a0 = 0 → (∃ Q1 : Int32 → bw_W → Prop, bw_ri E (d + 2) mX12_nounIn [.ref 50, .int a1] w Q1 ∧ ∀ v2 w3, Q1 v2 w3 →
((v2 = (-1) → Q 0 w3) ∧ (¬ (v2 = (-1)) → ((a0 < 5 → ((¬ a0 = 5 → ((¬ a0 = 6 → (((gw_l w3 63 0) = 0 → Q (-1) w3) ∧ (¬ (gw_l w3 63 0) = 0 → ((¬ a0 = 4 → ((a0 = 1 → ((a0 = 3 → Q (-1) w3) ∧ (¬ (a0 = 3) → (∃ Q4 : Int32 → bw_W → Prop, bw_ri E (d + 2) mX12_nounIn [.ref 50, .int a1] w3 Q4 ∧ ∀ v5 w6, Q4 v5 w6 →
(∃ Q7 : Int32 → bw_W → Prop, bw_ri E (d + 2) mX12_numberIn [.ref 50, .int a1] w6 Q7 ∧ ∀ v8 w9, Q7 v8 w9 →
(∃ Q10 : Int32 → bw_W → Prop, bw_ri E (d + 2) mX12_defaultOf [.ref 50, .int v5, .int a2, .int v8] w9 Q10 ∧ ∀ v11 w12, Q10 v11 w12 →
((v11 ≤ 0 → Q (-1) w12) ∧ (¬ (v11 ≤ 0) → Q 1 w12)))))))) ∧ (¬ (a0 = 1) → ((¬ a0 = 3 → (∃ Q13 : Int32 → bw_W → Prop, bw_ri E (d + 2) mX12_numberIn [.ref 50, .int a1] w3 Q13 ∧ ∀ v14 w15, Q13 v14 w15 →
(∃ Q16 : Int32 → bw_W → Prop, bw_ri E (d + 2) mX12_nounIn [.ref 50, .int a1] w15 Q16 ∧ ∀ v17 w18, Q16 v17 w18 →
(vp_in v17 6) ∧
(∃ Q20 : Bool → bw_W → Prop, bw_rb E (d + 2) mX12_isWordTold [.ref 50, .int 0, .int a2, .int v14, .int (gw_i w18 66 (v17.toNatClampNeg))] w18 Q20 ∧ ∀ v21 w22, Q20 v21 w22 →
((v21 = true → ((a0 = 3 → Q (-1) w22) ∧ (¬ (a0 = 3) → (∃ Q23 : Int32 → bw_W → Prop, bw_ri E (d + 2) mX12_nounIn [.ref 50, .int a1] w22 Q23 ∧ ∀ v24 w25, Q23 v24 w25 →
(∃ Q26 : Int32 → bw_W → Prop, bw_ri E (d + 2) mX12_numberIn [.ref 50, .int a1] w25 Q26 ∧ ∀ v27 w28, Q26 v27 w28 →
(∃ Q29 : Int32 → bw_W → Prop, bw_ri E (d + 2) mX12_defaultOf [.ref 50, .int v24, .int a2, .int v27] w28 Q29 ∧ ∀ v30 w31, Q29 v30 w31 →
((v30 ≤ 0 → Q (-1) w31) ∧ (¬ (v30 ≤ 0) → Q 1 w31)))))))) ∧ (v21 = false → Q 4 w22)))))) ∧ (a0 = 3 → (∃ Q32 : Int32 → bw_W → Prop, bw_ri E (d + 2) mX12_numberIn [.ref 50, .int a1] w3 Q32 ∧ ∀ v33 w34, Q32 v33 w34 →
(∃ Q35 : Int32 → bw_W → Prop, bw_ri E (d + 2) mX12_nounIn [.ref 50, .int a1] w34 Q35 ∧ ∀ v36 w37, Q35 v36 w37 →
(vp_in v36 6) ∧
(∃ Q39 : Bool → bw_W → Prop, bw_rb E (d + 2) mX12_isWordTold [.ref 50, .int 1, .int a2, .int v33, .int (gw_i w37 66 (v36.toNatClampNeg))] w37 Q39 ∧ ∀ v40 w41, Q39 v40 w41 →
((v40 = true → ((a0 = 3 → Q (-1) w41) ∧ (¬ (a0 = 3) → (∃ Q42 : Int32 → bw_W → Prop, bw_ri E (d + 2) mX12_nounIn [.ref 50, .int a1] w41 Q42 ∧ ∀ v43 w44, Q42 v43 w44 →
(∃ Q45 : Int32 → bw_W → Prop, bw_ri E (d + 2) mX12_numberIn [.ref 50, .int a1] w44 Q45 ∧ ∀ v46 w47, Q45 v46 w47 →
(∃ Q48 : Int32 → bw_W → Prop, bw_ri E (d + 2) mX12_defaultOf [.ref 50, .int v43, .int a2, .int v46] w47 Q48 ∧ ∀ v49 w50, Q48 v49 w50 →
((v49 ≤ 0 → Q (-1) w50) ∧ (¬ (v49 ≤ 0) → Q 1 w50)))))))) ∧ (v40 = false → Q 4 w41)))))))))) ∧ (a0 = 4 → Q (-1) w3))))) ∧ (a0 = 6 → (∃ Q51 : Int32 → bw_W → Prop, bw_ri E (d + 2) mX12_nounIn [.ref 50, .int a1] w3 Q51 ∧ ∀ v52 w53, Q51 v52 w53 →
(vp_in v52 6) ∧
(∃ Q55 : Int32 → bw_W → Prop, bw_ri E (d + 2) mX12_nounIn [.ref 50, .int a2] w53 Q55 ∧ ∀ v56 w57, Q55 v56 w57 →
(vp_in v56 6) ∧
((¬ (gw_i w53 66 (v52.toNatClampNeg)) = (gw_i w57 66 (v56.toNatClampNeg)) → Q 3 w57) ∧ ((gw_i w53 66 (v52.toNatClampNeg)) = (gw_i w57 66 (v56.toNatClampNeg)) → Q (-1) w57))))))) ∧ (a0 = 5 → (∃ Q59 : Int32 → bw_W → Prop, bw_ri E (d + 2) mX12_numberIn [.ref 50, .int a1] w3 Q59 ∧ ∀ v60 w61, Q59 v60 w61 →
(∃ Q62 : Int32 → bw_W → Prop, bw_ri E (d + 2) mX12_numberIn [.ref 50, .int a2] w61 Q62 ∧ ∀ v63 w64, Q62 v63 w64 →
((¬ v60 = v63 → Q 2 w64) ∧ (v60 = v63 → Q (-1) w64))))))) ∧ (¬ (a0 < 5) → (∃ Q65 : Int32 → bw_W → Prop, bw_ri E (d + 2) mX12_nounIn [.ref 50, .int a2] w3 Q65 ∧ ∀ v66 w67, Q65 v66 w67 →
((¬ v66 = (-1) → ((¬ a0 = 5 → ((¬ a0 = 6 → (((gw_l w67 63 0) = 0 → Q (-1) w67) ∧ (¬ (gw_l w67 63 0) = 0 → ((¬ a0 = 4 → ((a0 = 1 → ((a0 = 3 → Q (-1) w67) ∧ (¬ (a0 = 3) → (∃ Q68 : Int32 → bw_W → Prop, bw_ri E (d + 2) mX12_nounIn [.ref 50, .int a1] w67 Q68 ∧ ∀ v69 w70, Q68 v69 w70 →
(∃ Q71 : Int32 → bw_W → Prop, bw_ri E (d + 2) mX12_numberIn [.ref 50, .int a1] w70 Q71 ∧ ∀ v72 w73, Q71 v72 w73 →
(∃ Q74 : Int32 → bw_W → Prop, bw_ri E (d + 2) mX12_defaultOf [.ref 50, .int v69, .int a2, .int v72] w73 Q74 ∧ ∀ v75 w76, Q74 v75 w76 →
((v75 ≤ 0 → Q (-1) w76) ∧ (¬ (v75 ≤ 0) → Q 1 w76)))))))) ∧ (¬ (a0 = 1) → ((¬ a0 = 3 → (∃ Q77 : Int32 → bw_W → Prop, bw_ri E (d + 2) mX12_numberIn [.ref 50, .int a1] w67 Q77 ∧ ∀ v78 w79, Q77 v78 w79 →
(∃ Q80 : Int32 → bw_W → Prop, bw_ri E (d + 2) mX12_nounIn [.ref 50, .int a1] w79 Q80 ∧ ∀ v81 w82, Q80 v81 w82 →
(vp_in v81 6) ∧
(∃ Q84 : Bool → bw_W → Prop, bw_rb E (d + 2) mX12_isWordTold [.ref 50, .int 0, .int a2, .int v78, .int (gw_i w82 66 (v81.toNatClampNeg))] w82 Q84 ∧ ∀ v85 w86, Q84 v85 w86 →
((v85 = true → ((a0 = 3 → Q (-1) w86) ∧ (¬ (a0 = 3) → (∃ Q87 : Int32 → bw_W → Prop, bw_ri E (d + 2) mX12_nounIn [.ref 50, .int a1] w86 Q87 ∧ ∀ v88 w89, Q87 v88 w89 →
(∃ Q90 : Int32 → bw_W → Prop, bw_ri E (d + 2) mX12_numberIn [.ref 50, .int a1] w89 Q90 ∧ ∀ v91 w92, Q90 v91 w92 →
(∃ Q93 : Int32 → bw_W → Prop, bw_ri E (d + 2) mX12_defaultOf [.ref 50, .int v88, .int a2, .int v91] w92 Q93 ∧ ∀ v94 w95, Q93 v94 w95 →
((v94 ≤ 0 → Q (-1) w95) ∧ (¬ (v94 ≤ 0) → Q 1 w95)))))))) ∧ (v85 = false → Q 4 w86)))))) ∧ (a0 = 3 → (∃ Q96 : Int32 → bw_W → Prop, bw_ri E (d + 2) mX12_numberIn [.ref 50, .int a1] w67 Q96 ∧ ∀ v97 w98, Q96 v97 w98 →
(∃ Q99 : Int32 → bw_W → Prop, bw_ri E (d + 2) mX12_nounIn [.ref 50, .int a1] w98 Q99 ∧ ∀ v100 w101, Q99 v100 w101 →
(vp_in v100 6) ∧
(∃ Q103 : Bool → bw_W → Prop, bw_rb E (d + 2) mX12_isWordTold [.ref 50, .int 1, .int a2, .int v97, .int (gw_i w101 66 (v100.toNatClampNeg))] w101 Q103 ∧ ∀ v104 w105, Q103 v104 w105 →
((v104 = true → ((a0 = 3 → Q (-1) w105) ∧ (¬ (a0 = 3) → (∃ Q106 : Int32 → bw_W → Prop, bw_ri E (d + 2) mX12_nounIn [.ref 50, .int a1] w105 Q106 ∧ ∀ v107 w108, Q106 v107 w108 →
(∃ Q109 : Int32 → bw_W → Prop, bw_ri E (d + 2) mX12_numberIn [.ref 50, .int a1] w108 Q109 ∧ ∀ v110 w111, Q109 v110 w111 →
(∃ Q112 : Int32 → bw_W → Prop, bw_ri E (d + 2) mX12_defaultOf [.ref 50, .int v107, .int a2, .int v110] w111 Q112 ∧ ∀ v113 w114, Q112 v113 w114 →
((v113 ≤ 0 → Q (-1) w114) ∧ (¬ (v113 ≤ 0) → Q 1 w114)))))))) ∧ (v104 = false → Q 4 w105)))))))))) ∧ (a0 = 4 → Q (-1) w67))))) ∧ (a0 = 6 → (∃ Q115 : Int32 → bw_W → Prop, bw_ri E (d + 2) mX12_nounIn [.ref 50, .int a1] w67 Q115 ∧ ∀ v116 w117, Q115 v116 w117 →
(vp_in v116 6) ∧
(∃ Q119 : Int32 → bw_W → Prop, bw_ri E (d + 2) mX12_nounIn [.ref 50, .int a2] w117 Q119 ∧ ∀ v120 w121, Q119 v120 w121 →
(vp_in v120 6) ∧
((¬ (gw_i w117 66 (v116.toNatClampNeg)) = (gw_i w121 66 (v120.toNatClampNeg)) → Q 3 w121) ∧ ((gw_i w117 66 (v116.toNatClampNeg)) = (gw_i w121 66 (v120.toNatClampNeg)) → Q (-1) w121))))))) ∧ (a0 = 5 → (∃ Q123 : Int32 → bw_W → Prop, bw_ri E (d + 2) mX12_numberIn [.ref 50, .int a1] w67 Q123 ∧ ∀ v124 w125, Q123 v124 w125 →
(∃ Q126 : Int32 → bw_W → Prop, bw_ri E (d + 2) mX12_numberIn [.ref 50, .int a2] w125 Q126 ∧ ∀ v127 w128, Q126 v127 w128 →
((¬ v124 = v127 → Q 2 w128) ∧ (v124 = v127 → Q (-1) w128))))))) ∧ (v66 = (-1) → Q 0 w67))))))))) ∧ (a0 = 0 → Q (-1) w))) : bw_ri E (d + 3) mX12_whyItemNot [.ref 50, .int a0, .int a1, .int a2] w Q := by
  refine bw_enter rfl (Nat.le_of_ble_eq_true rfl) ?_
  refine bw_iload_n (i := 1) dX12_whyItemNot_0 rfl rfl ?_
  refine bw_if_ne (tgt := 6) dX12_whyItemNot_1 (by decide) (fun c => ?_) (fun c => ?_)
  · replace h := h.1 (c)
    refine bw_aload_n (i := 0) dX12_whyItemNot_6 rfl rfl ?_
    refine bw_iload_n (i := 2) dX12_whyItemNot_7 rfl rfl ?_
    obtain ⟨Q1, hr, h⟩ := h
    refine bw_cVi (As := [.int a1]) (st := []) cv_BentWordsModel_330 rfl rfl hr rfl rfl (Nat.le_of_ble_eq_true rfl) dX12_whyItemNot_8 (fun v2 w3 hv => ?_)
    replace h := h v2 w3 hv
    clear hr
    refine bw_iconst (v := (-1)) dX12_whyItemNot_11 (by decide) ?_
    refine bw_icmp_eq (tgt := 29) dX12_whyItemNot_12 (by decide) (fun c => ?_) (fun c => ?_)
    · replace h := h.1 (c)
      refine bw_iconst (v := 0) dX12_whyItemNot_29 (by decide) ?_
      exact bw_ireturn dX12_whyItemNot_30 rfl rfl ⟨_, rfl, h⟩
    · replace h := h.2 (c)
      refine bw_iload_n (i := 1) dX12_whyItemNot_15 rfl rfl ?_
      refine bw_iconst (v := 5) dX12_whyItemNot_16 (by decide) ?_
      refine bw_icmp_lt (tgt := 31) dX12_whyItemNot_17 (by decide) (fun c => ?_) (fun c => ?_)
      · replace h := h.1 (c)
        refine bw_iload_n (i := 1) dX12_whyItemNot_31 rfl rfl ?_
        refine bw_iconst (v := 5) dX12_whyItemNot_32 (by decide) ?_
        refine bw_icmp_ne (tgt := 55) dX12_whyItemNot_33 (by decide) (fun c => ?_) (fun c => ?_)
        · replace h := h.1 (c)
          refine bw_iload_n (i := 1) dX12_whyItemNot_55 rfl rfl ?_
          refine bw_bipush (v := 6) dX12_whyItemNot_56 (by decide) ?_
          refine bw_icmp_ne (tgt := 90) dX12_whyItemNot_58 (by decide) (fun c => ?_) (fun c => ?_)
          · replace h := h.1 (c)
            refine bw_aload_n (i := 0) dX12_whyItemNot_90 rfl rfl ?_
            refine bw_getr (r := 63) fg_BentWordsModel_47 rfl rfl dX12_whyItemNot_91 ?_
            refine bw_iconst (v := 0) dX12_whyItemNot_94 (by decide) ?_
            refine bw_laload rfl (by unfold vp_in; decide) dX12_whyItemNot_95 ?_
            rw [show gw_l w3 63 (Int32.toNatClampNeg 0) = (gw_l w3 63 0) from rfl]
            refine bw_lconst (v := 0) dX12_whyItemNot_96 rfl ?_
            refine bw_lcmp_eq (tgt := 106) dX12_whyItemNot_97 dX12_whyItemNot_98 (by decide) (fun c => ?_) (fun c => ?_)
            · replace h := h.1 (c)
              refine bw_iconst (v := (-1)) dX12_whyItemNot_106 (by decide) ?_
              exact bw_ireturn dX12_whyItemNot_107 rfl rfl ⟨_, rfl, h⟩
            · replace h := h.2 (c)
              refine bw_iload_n (i := 1) dX12_whyItemNot_101 rfl rfl ?_
              refine bw_iconst (v := 4) dX12_whyItemNot_102 (by decide) ?_
              refine bw_icmp_ne (tgt := 108) dX12_whyItemNot_103 (by decide) (fun c => ?_) (fun c => ?_)
              · replace h := h.1 (c)
                refine bw_iload_n (i := 1) dX12_whyItemNot_108 rfl rfl ?_
                refine bw_iconst (v := 1) dX12_whyItemNot_109 (by decide) ?_
                refine bw_icmp_eq (tgt := 148) dX12_whyItemNot_110 (by decide) (fun c => ?_) (fun c => ?_)
                · replace h := h.1 (c)
                  refine bw_iload_n (i := 1) dX12_whyItemNot_148 rfl rfl ?_
                  refine bw_iconst (v := 3) dX12_whyItemNot_149 (by decide) ?_
                  refine bw_icmp_eq (tgt := 175) dX12_whyItemNot_150 (by decide) (fun c => ?_) (fun c => ?_)
                  · replace h := h.1 (c)
                    refine bw_iconst (v := (-1)) dX12_whyItemNot_175 (by decide) ?_
                    exact bw_ireturn dX12_whyItemNot_176 rfl rfl ⟨_, rfl, h⟩
                  · replace h := h.2 (c)
                    refine bw_aload_n (i := 0) dX12_whyItemNot_153 rfl rfl ?_
                    refine bw_aload_n (i := 0) dX12_whyItemNot_154 rfl rfl ?_
                    refine bw_iload_n (i := 2) dX12_whyItemNot_155 rfl rfl ?_
                    obtain ⟨Q4, hr, h⟩ := h
                    refine bw_cVi (As := [.int a1]) (st := [.ref 50]) cv_BentWordsModel_330 rfl rfl hr rfl rfl (Nat.le_of_ble_eq_true rfl) dX12_whyItemNot_156 (fun v5 w6 hv => ?_)
                    replace h := h v5 w6 hv
                    clear hr
                    refine bw_iload_n (i := 3) dX12_whyItemNot_159 rfl rfl ?_
                    refine bw_aload_n (i := 0) dX12_whyItemNot_160 rfl rfl ?_
                    refine bw_iload_n (i := 2) dX12_whyItemNot_161 rfl rfl ?_
                    obtain ⟨Q7, hr, h⟩ := h
                    refine bw_cVi (As := [.int a1]) (st := [.int a2, .int v5, .ref 50]) cv_BentWordsModel_333 rfl rfl hr rfl rfl (Nat.le_of_ble_eq_true rfl) dX12_whyItemNot_162 (fun v8 w9 hv => ?_)
                    replace h := h v8 w9 hv
                    clear hr
                    obtain ⟨Q10, hr, h⟩ := h
                    refine bw_cVi (As := [.int v5, .int a2, .int v8]) (st := []) cv_BentWordsModel_300 rfl rfl hr rfl rfl (Nat.le_of_ble_eq_true rfl) dX12_whyItemNot_165 (fun v11 w12 hv => ?_)
                    replace h := h v11 w12 hv
                    clear hr
                    refine bw_if_le (tgt := 175) dX12_whyItemNot_168 (by decide) (fun c => ?_) (fun c => ?_)
                    · replace h := h.1 (c)
                      refine bw_iconst (v := (-1)) dX12_whyItemNot_175 (by decide) ?_
                      exact bw_ireturn dX12_whyItemNot_176 rfl rfl ⟨_, rfl, h⟩
                    · replace h := h.2 (c)
                      refine bw_iconst (v := 1) dX12_whyItemNot_171 (by decide) ?_
                      refine bw_goto (tgt := 176) dX12_whyItemNot_172 (by decide) ?_
                      exact bw_ireturn dX12_whyItemNot_176 rfl rfl ⟨_, rfl, h⟩
                · replace h := h.2 (c)
                  refine bw_aload_n (i := 0) dX12_whyItemNot_113 rfl rfl ?_
                  refine bw_iload_n (i := 1) dX12_whyItemNot_114 rfl rfl ?_
                  refine bw_iconst (v := 3) dX12_whyItemNot_115 (by decide) ?_
                  refine bw_icmp_ne (tgt := 123) dX12_whyItemNot_116 (by decide) (fun c => ?_) (fun c => ?_)
                  · replace h := h.1 (c)
                    refine bw_iconst (v := 0) dX12_whyItemNot_123 (by decide) ?_
                    refine bw_iload_n (i := 3) dX12_whyItemNot_124 rfl rfl ?_
                    refine bw_aload_n (i := 0) dX12_whyItemNot_125 rfl rfl ?_
                    refine bw_iload_n (i := 2) dX12_whyItemNot_126 rfl rfl ?_
                    obtain ⟨Q13, hr, h⟩ := h
                    refine bw_cVi (As := [.int a1]) (st := [.int a2, .int 0, .ref 50]) cv_BentWordsModel_333 rfl rfl hr rfl rfl (Nat.le_of_ble_eq_true rfl) dX12_whyItemNot_127 (fun v14 w15 hv => ?_)
                    replace h := h v14 w15 hv
                    clear hr
                    refine bw_aload_n (i := 0) dX12_whyItemNot_130 rfl rfl ?_
                    refine bw_getr (r := 66) fg_BentWordsModel_56 rfl rfl dX12_whyItemNot_131 ?_
                    refine bw_aload_n (i := 0) dX12_whyItemNot_134 rfl rfl ?_
                    refine bw_iload_n (i := 2) dX12_whyItemNot_135 rfl rfl ?_
                    obtain ⟨Q16, hr, h⟩ := h
                    refine bw_cVi (As := [.int a1]) (st := [.ref 66, .int v14, .int a2, .int 0, .ref 50]) cv_BentWordsModel_330 rfl rfl hr rfl rfl (Nat.le_of_ble_eq_true rfl) dX12_whyItemNot_136 (fun v17 w18 hv => ?_)
                    replace h := h v17 w18 hv
                    clear hr
                    obtain ⟨hi19, h⟩ := h
                    refine bw_iaload rfl hi19 dX12_whyItemNot_139 ?_
                    obtain ⟨Q20, hr, h⟩ := h
                    refine bw_cVb (As := [.int 0, .int a2, .int v14, .int (gw_i w18 66 (v17.toNatClampNeg))]) (st := []) cv_BentWordsModel_336 rfl rfl hr rfl rfl (Nat.le_of_ble_eq_true rfl) dX12_whyItemNot_140 (fun v21 w22 hv => ?_)
                    replace h := h v21 w22 hv
                    clear hr
                    refine bw_ifb_ne (tgt := 148) dX12_whyItemNot_143 (by decide) (fun c => ?_) (fun c => ?_)
                    · replace h := h.1 (c)
                      refine bw_iload_n (i := 1) dX12_whyItemNot_148 rfl rfl ?_
                      refine bw_iconst (v := 3) dX12_whyItemNot_149 (by decide) ?_
                      refine bw_icmp_eq (tgt := 175) dX12_whyItemNot_150 (by decide) (fun c => ?_) (fun c => ?_)
                      · replace h := h.1 (c)
                        refine bw_iconst (v := (-1)) dX12_whyItemNot_175 (by decide) ?_
                        exact bw_ireturn dX12_whyItemNot_176 rfl rfl ⟨_, rfl, h⟩
                      · replace h := h.2 (c)
                        refine bw_aload_n (i := 0) dX12_whyItemNot_153 rfl rfl ?_
                        refine bw_aload_n (i := 0) dX12_whyItemNot_154 rfl rfl ?_
                        refine bw_iload_n (i := 2) dX12_whyItemNot_155 rfl rfl ?_
                        obtain ⟨Q23, hr, h⟩ := h
                        refine bw_cVi (As := [.int a1]) (st := [.ref 50]) cv_BentWordsModel_330 rfl rfl hr rfl rfl (Nat.le_of_ble_eq_true rfl) dX12_whyItemNot_156 (fun v24 w25 hv => ?_)
                        replace h := h v24 w25 hv
                        clear hr
                        refine bw_iload_n (i := 3) dX12_whyItemNot_159 rfl rfl ?_
                        refine bw_aload_n (i := 0) dX12_whyItemNot_160 rfl rfl ?_
                        refine bw_iload_n (i := 2) dX12_whyItemNot_161 rfl rfl ?_
                        obtain ⟨Q26, hr, h⟩ := h
                        refine bw_cVi (As := [.int a1]) (st := [.int a2, .int v24, .ref 50]) cv_BentWordsModel_333 rfl rfl hr rfl rfl (Nat.le_of_ble_eq_true rfl) dX12_whyItemNot_162 (fun v27 w28 hv => ?_)
                        replace h := h v27 w28 hv
                        clear hr
                        obtain ⟨Q29, hr, h⟩ := h
                        refine bw_cVi (As := [.int v24, .int a2, .int v27]) (st := []) cv_BentWordsModel_300 rfl rfl hr rfl rfl (Nat.le_of_ble_eq_true rfl) dX12_whyItemNot_165 (fun v30 w31 hv => ?_)
                        replace h := h v30 w31 hv
                        clear hr
                        refine bw_if_le (tgt := 175) dX12_whyItemNot_168 (by decide) (fun c => ?_) (fun c => ?_)
                        · replace h := h.1 (c)
                          refine bw_iconst (v := (-1)) dX12_whyItemNot_175 (by decide) ?_
                          exact bw_ireturn dX12_whyItemNot_176 rfl rfl ⟨_, rfl, h⟩
                        · replace h := h.2 (c)
                          refine bw_iconst (v := 1) dX12_whyItemNot_171 (by decide) ?_
                          refine bw_goto (tgt := 176) dX12_whyItemNot_172 (by decide) ?_
                          exact bw_ireturn dX12_whyItemNot_176 rfl rfl ⟨_, rfl, h⟩
                    · replace h := h.2 (c)
                      refine bw_iconst (v := 4) dX12_whyItemNot_146 (by decide) ?_
                      exact bw_ireturn dX12_whyItemNot_147 rfl rfl ⟨_, rfl, h⟩
                  · replace h := h.2 (c)
                    refine bw_iconst (v := 1) dX12_whyItemNot_119 (by decide) ?_
                    refine bw_goto (tgt := 124) dX12_whyItemNot_120 (by decide) ?_
                    refine bw_iload_n (i := 3) dX12_whyItemNot_124 rfl rfl ?_
                    refine bw_aload_n (i := 0) dX12_whyItemNot_125 rfl rfl ?_
                    refine bw_iload_n (i := 2) dX12_whyItemNot_126 rfl rfl ?_
                    obtain ⟨Q32, hr, h⟩ := h
                    refine bw_cVi (As := [.int a1]) (st := [.int a2, .int 1, .ref 50]) cv_BentWordsModel_333 rfl rfl hr rfl rfl (Nat.le_of_ble_eq_true rfl) dX12_whyItemNot_127 (fun v33 w34 hv => ?_)
                    replace h := h v33 w34 hv
                    clear hr
                    refine bw_aload_n (i := 0) dX12_whyItemNot_130 rfl rfl ?_
                    refine bw_getr (r := 66) fg_BentWordsModel_56 rfl rfl dX12_whyItemNot_131 ?_
                    refine bw_aload_n (i := 0) dX12_whyItemNot_134 rfl rfl ?_
                    refine bw_iload_n (i := 2) dX12_whyItemNot_135 rfl rfl ?_
                    obtain ⟨Q35, hr, h⟩ := h
                    refine bw_cVi (As := [.int a1]) (st := [.ref 66, .int v33, .int a2, .int 1, .ref 50]) cv_BentWordsModel_330 rfl rfl hr rfl rfl (Nat.le_of_ble_eq_true rfl) dX12_whyItemNot_136 (fun v36 w37 hv => ?_)
                    replace h := h v36 w37 hv
                    clear hr
                    obtain ⟨hi38, h⟩ := h
                    refine bw_iaload rfl hi38 dX12_whyItemNot_139 ?_
                    obtain ⟨Q39, hr, h⟩ := h
                    refine bw_cVb (As := [.int 1, .int a2, .int v33, .int (gw_i w37 66 (v36.toNatClampNeg))]) (st := []) cv_BentWordsModel_336 rfl rfl hr rfl rfl (Nat.le_of_ble_eq_true rfl) dX12_whyItemNot_140 (fun v40 w41 hv => ?_)
                    replace h := h v40 w41 hv
                    clear hr
                    refine bw_ifb_ne (tgt := 148) dX12_whyItemNot_143 (by decide) (fun c => ?_) (fun c => ?_)
                    · replace h := h.1 (c)
                      refine bw_iload_n (i := 1) dX12_whyItemNot_148 rfl rfl ?_
                      refine bw_iconst (v := 3) dX12_whyItemNot_149 (by decide) ?_
                      refine bw_icmp_eq (tgt := 175) dX12_whyItemNot_150 (by decide) (fun c => ?_) (fun c => ?_)
                      · replace h := h.1 (c)
                        refine bw_iconst (v := (-1)) dX12_whyItemNot_175 (by decide) ?_
                        exact bw_ireturn dX12_whyItemNot_176 rfl rfl ⟨_, rfl, h⟩
                      · replace h := h.2 (c)
                        refine bw_aload_n (i := 0) dX12_whyItemNot_153 rfl rfl ?_
                        refine bw_aload_n (i := 0) dX12_whyItemNot_154 rfl rfl ?_
                        refine bw_iload_n (i := 2) dX12_whyItemNot_155 rfl rfl ?_
                        obtain ⟨Q42, hr, h⟩ := h
                        refine bw_cVi (As := [.int a1]) (st := [.ref 50]) cv_BentWordsModel_330 rfl rfl hr rfl rfl (Nat.le_of_ble_eq_true rfl) dX12_whyItemNot_156 (fun v43 w44 hv => ?_)
                        replace h := h v43 w44 hv
                        clear hr
                        refine bw_iload_n (i := 3) dX12_whyItemNot_159 rfl rfl ?_
                        refine bw_aload_n (i := 0) dX12_whyItemNot_160 rfl rfl ?_
                        refine bw_iload_n (i := 2) dX12_whyItemNot_161 rfl rfl ?_
                        obtain ⟨Q45, hr, h⟩ := h
                        refine bw_cVi (As := [.int a1]) (st := [.int a2, .int v43, .ref 50]) cv_BentWordsModel_333 rfl rfl hr rfl rfl (Nat.le_of_ble_eq_true rfl) dX12_whyItemNot_162 (fun v46 w47 hv => ?_)
                        replace h := h v46 w47 hv
                        clear hr
                        obtain ⟨Q48, hr, h⟩ := h
                        refine bw_cVi (As := [.int v43, .int a2, .int v46]) (st := []) cv_BentWordsModel_300 rfl rfl hr rfl rfl (Nat.le_of_ble_eq_true rfl) dX12_whyItemNot_165 (fun v49 w50 hv => ?_)
                        replace h := h v49 w50 hv
                        clear hr
                        refine bw_if_le (tgt := 175) dX12_whyItemNot_168 (by decide) (fun c => ?_) (fun c => ?_)
                        · replace h := h.1 (c)
                          refine bw_iconst (v := (-1)) dX12_whyItemNot_175 (by decide) ?_
                          exact bw_ireturn dX12_whyItemNot_176 rfl rfl ⟨_, rfl, h⟩
                        · replace h := h.2 (c)
                          refine bw_iconst (v := 1) dX12_whyItemNot_171 (by decide) ?_
                          refine bw_goto (tgt := 176) dX12_whyItemNot_172 (by decide) ?_
                          exact bw_ireturn dX12_whyItemNot_176 rfl rfl ⟨_, rfl, h⟩
                    · replace h := h.2 (c)
                      refine bw_iconst (v := 4) dX12_whyItemNot_146 (by decide) ?_
                      exact bw_ireturn dX12_whyItemNot_147 rfl rfl ⟨_, rfl, h⟩
              · replace h := h.2 (c)
                refine bw_iconst (v := (-1)) dX12_whyItemNot_106 (by decide) ?_
                exact bw_ireturn dX12_whyItemNot_107 rfl rfl ⟨_, rfl, h⟩
          · replace h := h.2 (c)
            refine bw_aload_n (i := 0) dX12_whyItemNot_61 rfl rfl ?_
            refine bw_getr (r := 66) fg_BentWordsModel_56 rfl rfl dX12_whyItemNot_62 ?_
            refine bw_aload_n (i := 0) dX12_whyItemNot_65 rfl rfl ?_
            refine bw_iload_n (i := 2) dX12_whyItemNot_66 rfl rfl ?_
            obtain ⟨Q51, hr, h⟩ := h
            refine bw_cVi (As := [.int a1]) (st := [.ref 66]) cv_BentWordsModel_330 rfl rfl hr rfl rfl (Nat.le_of_ble_eq_true rfl) dX12_whyItemNot_67 (fun v52 w53 hv => ?_)
            replace h := h v52 w53 hv
            clear hr
            obtain ⟨hi54, h⟩ := h
            refine bw_iaload rfl hi54 dX12_whyItemNot_70 ?_
            refine bw_aload_n (i := 0) dX12_whyItemNot_71 rfl rfl ?_
            refine bw_getr (r := 66) fg_BentWordsModel_56 rfl rfl dX12_whyItemNot_72 ?_
            refine bw_aload_n (i := 0) dX12_whyItemNot_75 rfl rfl ?_
            refine bw_iload_n (i := 3) dX12_whyItemNot_76 rfl rfl ?_
            obtain ⟨Q55, hr, h⟩ := h
            refine bw_cVi (As := [.int a2]) (st := [.ref 66, .int (gw_i w53 66 (v52.toNatClampNeg))]) cv_BentWordsModel_330 rfl rfl hr rfl rfl (Nat.le_of_ble_eq_true rfl) dX12_whyItemNot_77 (fun v56 w57 hv => ?_)
            replace h := h v56 w57 hv
            clear hr
            obtain ⟨hi58, h⟩ := h
            refine bw_iaload rfl hi58 dX12_whyItemNot_80 ?_
            refine bw_icmp_ne (tgt := 88) dX12_whyItemNot_81 (by decide) (fun c => ?_) (fun c => ?_)
            · replace h := h.1 (c)
              refine bw_iconst (v := 3) dX12_whyItemNot_88 (by decide) ?_
              exact bw_ireturn dX12_whyItemNot_89 rfl rfl ⟨_, rfl, h⟩
            · replace h := h.2 (c)
              refine bw_iconst (v := (-1)) dX12_whyItemNot_84 (by decide) ?_
              refine bw_goto (tgt := 89) dX12_whyItemNot_85 (by decide) ?_
              exact bw_ireturn dX12_whyItemNot_89 rfl rfl ⟨_, rfl, h⟩
        · replace h := h.2 (c)
          refine bw_aload_n (i := 0) dX12_whyItemNot_36 rfl rfl ?_
          refine bw_iload_n (i := 2) dX12_whyItemNot_37 rfl rfl ?_
          obtain ⟨Q59, hr, h⟩ := h
          refine bw_cVi (As := [.int a1]) (st := []) cv_BentWordsModel_333 rfl rfl hr rfl rfl (Nat.le_of_ble_eq_true rfl) dX12_whyItemNot_38 (fun v60 w61 hv => ?_)
          replace h := h v60 w61 hv
          clear hr
          refine bw_aload_n (i := 0) dX12_whyItemNot_41 rfl rfl ?_
          refine bw_iload_n (i := 3) dX12_whyItemNot_42 rfl rfl ?_
          obtain ⟨Q62, hr, h⟩ := h
          refine bw_cVi (As := [.int a2]) (st := [.int v60]) cv_BentWordsModel_333 rfl rfl hr rfl rfl (Nat.le_of_ble_eq_true rfl) dX12_whyItemNot_43 (fun v63 w64 hv => ?_)
          replace h := h v63 w64 hv
          clear hr
          refine bw_icmp_ne (tgt := 53) dX12_whyItemNot_46 (by decide) (fun c => ?_) (fun c => ?_)
          · replace h := h.1 (c)
            refine bw_iconst (v := 2) dX12_whyItemNot_53 (by decide) ?_
            exact bw_ireturn dX12_whyItemNot_54 rfl rfl ⟨_, rfl, h⟩
          · replace h := h.2 (c)
            refine bw_iconst (v := (-1)) dX12_whyItemNot_49 (by decide) ?_
            refine bw_goto (tgt := 54) dX12_whyItemNot_50 (by decide) ?_
            exact bw_ireturn dX12_whyItemNot_54 rfl rfl ⟨_, rfl, h⟩
      · replace h := h.2 (c)
        refine bw_aload_n (i := 0) dX12_whyItemNot_20 rfl rfl ?_
        refine bw_iload_n (i := 3) dX12_whyItemNot_21 rfl rfl ?_
        obtain ⟨Q65, hr, h⟩ := h
        refine bw_cVi (As := [.int a2]) (st := []) cv_BentWordsModel_330 rfl rfl hr rfl rfl (Nat.le_of_ble_eq_true rfl) dX12_whyItemNot_22 (fun v66 w67 hv => ?_)
        replace h := h v66 w67 hv
        clear hr
        refine bw_iconst (v := (-1)) dX12_whyItemNot_25 (by decide) ?_
        refine bw_icmp_ne (tgt := 31) dX12_whyItemNot_26 (by decide) (fun c => ?_) (fun c => ?_)
        · replace h := h.1 (c)
          refine bw_iload_n (i := 1) dX12_whyItemNot_31 rfl rfl ?_
          refine bw_iconst (v := 5) dX12_whyItemNot_32 (by decide) ?_
          refine bw_icmp_ne (tgt := 55) dX12_whyItemNot_33 (by decide) (fun c => ?_) (fun c => ?_)
          · replace h := h.1 (c)
            refine bw_iload_n (i := 1) dX12_whyItemNot_55 rfl rfl ?_
            refine bw_bipush (v := 6) dX12_whyItemNot_56 (by decide) ?_
            refine bw_icmp_ne (tgt := 90) dX12_whyItemNot_58 (by decide) (fun c => ?_) (fun c => ?_)
            · replace h := h.1 (c)
              refine bw_aload_n (i := 0) dX12_whyItemNot_90 rfl rfl ?_
              refine bw_getr (r := 63) fg_BentWordsModel_47 rfl rfl dX12_whyItemNot_91 ?_
              refine bw_iconst (v := 0) dX12_whyItemNot_94 (by decide) ?_
              refine bw_laload rfl (by unfold vp_in; decide) dX12_whyItemNot_95 ?_
              rw [show gw_l w67 63 (Int32.toNatClampNeg 0) = (gw_l w67 63 0) from rfl]
              refine bw_lconst (v := 0) dX12_whyItemNot_96 rfl ?_
              refine bw_lcmp_eq (tgt := 106) dX12_whyItemNot_97 dX12_whyItemNot_98 (by decide) (fun c => ?_) (fun c => ?_)
              · replace h := h.1 (c)
                refine bw_iconst (v := (-1)) dX12_whyItemNot_106 (by decide) ?_
                exact bw_ireturn dX12_whyItemNot_107 rfl rfl ⟨_, rfl, h⟩
              · replace h := h.2 (c)
                refine bw_iload_n (i := 1) dX12_whyItemNot_101 rfl rfl ?_
                refine bw_iconst (v := 4) dX12_whyItemNot_102 (by decide) ?_
                refine bw_icmp_ne (tgt := 108) dX12_whyItemNot_103 (by decide) (fun c => ?_) (fun c => ?_)
                · replace h := h.1 (c)
                  refine bw_iload_n (i := 1) dX12_whyItemNot_108 rfl rfl ?_
                  refine bw_iconst (v := 1) dX12_whyItemNot_109 (by decide) ?_
                  refine bw_icmp_eq (tgt := 148) dX12_whyItemNot_110 (by decide) (fun c => ?_) (fun c => ?_)
                  · replace h := h.1 (c)
                    refine bw_iload_n (i := 1) dX12_whyItemNot_148 rfl rfl ?_
                    refine bw_iconst (v := 3) dX12_whyItemNot_149 (by decide) ?_
                    refine bw_icmp_eq (tgt := 175) dX12_whyItemNot_150 (by decide) (fun c => ?_) (fun c => ?_)
                    · replace h := h.1 (c)
                      refine bw_iconst (v := (-1)) dX12_whyItemNot_175 (by decide) ?_
                      exact bw_ireturn dX12_whyItemNot_176 rfl rfl ⟨_, rfl, h⟩
                    · replace h := h.2 (c)
                      refine bw_aload_n (i := 0) dX12_whyItemNot_153 rfl rfl ?_
                      refine bw_aload_n (i := 0) dX12_whyItemNot_154 rfl rfl ?_
                      refine bw_iload_n (i := 2) dX12_whyItemNot_155 rfl rfl ?_
                      obtain ⟨Q68, hr, h⟩ := h
                      refine bw_cVi (As := [.int a1]) (st := [.ref 50]) cv_BentWordsModel_330 rfl rfl hr rfl rfl (Nat.le_of_ble_eq_true rfl) dX12_whyItemNot_156 (fun v69 w70 hv => ?_)
                      replace h := h v69 w70 hv
                      clear hr
                      refine bw_iload_n (i := 3) dX12_whyItemNot_159 rfl rfl ?_
                      refine bw_aload_n (i := 0) dX12_whyItemNot_160 rfl rfl ?_
                      refine bw_iload_n (i := 2) dX12_whyItemNot_161 rfl rfl ?_
                      obtain ⟨Q71, hr, h⟩ := h
                      refine bw_cVi (As := [.int a1]) (st := [.int a2, .int v69, .ref 50]) cv_BentWordsModel_333 rfl rfl hr rfl rfl (Nat.le_of_ble_eq_true rfl) dX12_whyItemNot_162 (fun v72 w73 hv => ?_)
                      replace h := h v72 w73 hv
                      clear hr
                      obtain ⟨Q74, hr, h⟩ := h
                      refine bw_cVi (As := [.int v69, .int a2, .int v72]) (st := []) cv_BentWordsModel_300 rfl rfl hr rfl rfl (Nat.le_of_ble_eq_true rfl) dX12_whyItemNot_165 (fun v75 w76 hv => ?_)
                      replace h := h v75 w76 hv
                      clear hr
                      refine bw_if_le (tgt := 175) dX12_whyItemNot_168 (by decide) (fun c => ?_) (fun c => ?_)
                      · replace h := h.1 (c)
                        refine bw_iconst (v := (-1)) dX12_whyItemNot_175 (by decide) ?_
                        exact bw_ireturn dX12_whyItemNot_176 rfl rfl ⟨_, rfl, h⟩
                      · replace h := h.2 (c)
                        refine bw_iconst (v := 1) dX12_whyItemNot_171 (by decide) ?_
                        refine bw_goto (tgt := 176) dX12_whyItemNot_172 (by decide) ?_
                        exact bw_ireturn dX12_whyItemNot_176 rfl rfl ⟨_, rfl, h⟩
                  · replace h := h.2 (c)
                    refine bw_aload_n (i := 0) dX12_whyItemNot_113 rfl rfl ?_
                    refine bw_iload_n (i := 1) dX12_whyItemNot_114 rfl rfl ?_
                    refine bw_iconst (v := 3) dX12_whyItemNot_115 (by decide) ?_
                    refine bw_icmp_ne (tgt := 123) dX12_whyItemNot_116 (by decide) (fun c => ?_) (fun c => ?_)
                    · replace h := h.1 (c)
                      refine bw_iconst (v := 0) dX12_whyItemNot_123 (by decide) ?_
                      refine bw_iload_n (i := 3) dX12_whyItemNot_124 rfl rfl ?_
                      refine bw_aload_n (i := 0) dX12_whyItemNot_125 rfl rfl ?_
                      refine bw_iload_n (i := 2) dX12_whyItemNot_126 rfl rfl ?_
                      obtain ⟨Q77, hr, h⟩ := h
                      refine bw_cVi (As := [.int a1]) (st := [.int a2, .int 0, .ref 50]) cv_BentWordsModel_333 rfl rfl hr rfl rfl (Nat.le_of_ble_eq_true rfl) dX12_whyItemNot_127 (fun v78 w79 hv => ?_)
                      replace h := h v78 w79 hv
                      clear hr
                      refine bw_aload_n (i := 0) dX12_whyItemNot_130 rfl rfl ?_
                      refine bw_getr (r := 66) fg_BentWordsModel_56 rfl rfl dX12_whyItemNot_131 ?_
                      refine bw_aload_n (i := 0) dX12_whyItemNot_134 rfl rfl ?_
                      refine bw_iload_n (i := 2) dX12_whyItemNot_135 rfl rfl ?_
                      obtain ⟨Q80, hr, h⟩ := h
                      refine bw_cVi (As := [.int a1]) (st := [.ref 66, .int v78, .int a2, .int 0, .ref 50]) cv_BentWordsModel_330 rfl rfl hr rfl rfl (Nat.le_of_ble_eq_true rfl) dX12_whyItemNot_136 (fun v81 w82 hv => ?_)
                      replace h := h v81 w82 hv
                      clear hr
                      obtain ⟨hi83, h⟩ := h
                      refine bw_iaload rfl hi83 dX12_whyItemNot_139 ?_
                      obtain ⟨Q84, hr, h⟩ := h
                      refine bw_cVb (As := [.int 0, .int a2, .int v78, .int (gw_i w82 66 (v81.toNatClampNeg))]) (st := []) cv_BentWordsModel_336 rfl rfl hr rfl rfl (Nat.le_of_ble_eq_true rfl) dX12_whyItemNot_140 (fun v85 w86 hv => ?_)
                      replace h := h v85 w86 hv
                      clear hr
                      refine bw_ifb_ne (tgt := 148) dX12_whyItemNot_143 (by decide) (fun c => ?_) (fun c => ?_)
                      · replace h := h.1 (c)
                        refine bw_iload_n (i := 1) dX12_whyItemNot_148 rfl rfl ?_
                        refine bw_iconst (v := 3) dX12_whyItemNot_149 (by decide) ?_
                        refine bw_icmp_eq (tgt := 175) dX12_whyItemNot_150 (by decide) (fun c => ?_) (fun c => ?_)
                        · replace h := h.1 (c)
                          refine bw_iconst (v := (-1)) dX12_whyItemNot_175 (by decide) ?_
                          exact bw_ireturn dX12_whyItemNot_176 rfl rfl ⟨_, rfl, h⟩
                        · replace h := h.2 (c)
                          refine bw_aload_n (i := 0) dX12_whyItemNot_153 rfl rfl ?_
                          refine bw_aload_n (i := 0) dX12_whyItemNot_154 rfl rfl ?_
                          refine bw_iload_n (i := 2) dX12_whyItemNot_155 rfl rfl ?_
                          obtain ⟨Q87, hr, h⟩ := h
                          refine bw_cVi (As := [.int a1]) (st := [.ref 50]) cv_BentWordsModel_330 rfl rfl hr rfl rfl (Nat.le_of_ble_eq_true rfl) dX12_whyItemNot_156 (fun v88 w89 hv => ?_)
                          replace h := h v88 w89 hv
                          clear hr
                          refine bw_iload_n (i := 3) dX12_whyItemNot_159 rfl rfl ?_
                          refine bw_aload_n (i := 0) dX12_whyItemNot_160 rfl rfl ?_
                          refine bw_iload_n (i := 2) dX12_whyItemNot_161 rfl rfl ?_
                          obtain ⟨Q90, hr, h⟩ := h
                          refine bw_cVi (As := [.int a1]) (st := [.int a2, .int v88, .ref 50]) cv_BentWordsModel_333 rfl rfl hr rfl rfl (Nat.le_of_ble_eq_true rfl) dX12_whyItemNot_162 (fun v91 w92 hv => ?_)
                          replace h := h v91 w92 hv
                          clear hr
                          obtain ⟨Q93, hr, h⟩ := h
                          refine bw_cVi (As := [.int v88, .int a2, .int v91]) (st := []) cv_BentWordsModel_300 rfl rfl hr rfl rfl (Nat.le_of_ble_eq_true rfl) dX12_whyItemNot_165 (fun v94 w95 hv => ?_)
                          replace h := h v94 w95 hv
                          clear hr
                          refine bw_if_le (tgt := 175) dX12_whyItemNot_168 (by decide) (fun c => ?_) (fun c => ?_)
                          · replace h := h.1 (c)
                            refine bw_iconst (v := (-1)) dX12_whyItemNot_175 (by decide) ?_
                            exact bw_ireturn dX12_whyItemNot_176 rfl rfl ⟨_, rfl, h⟩
                          · replace h := h.2 (c)
                            refine bw_iconst (v := 1) dX12_whyItemNot_171 (by decide) ?_
                            refine bw_goto (tgt := 176) dX12_whyItemNot_172 (by decide) ?_
                            exact bw_ireturn dX12_whyItemNot_176 rfl rfl ⟨_, rfl, h⟩
                      · replace h := h.2 (c)
                        refine bw_iconst (v := 4) dX12_whyItemNot_146 (by decide) ?_
                        exact bw_ireturn dX12_whyItemNot_147 rfl rfl ⟨_, rfl, h⟩
                    · replace h := h.2 (c)
                      refine bw_iconst (v := 1) dX12_whyItemNot_119 (by decide) ?_
                      refine bw_goto (tgt := 124) dX12_whyItemNot_120 (by decide) ?_
                      refine bw_iload_n (i := 3) dX12_whyItemNot_124 rfl rfl ?_
                      refine bw_aload_n (i := 0) dX12_whyItemNot_125 rfl rfl ?_
                      refine bw_iload_n (i := 2) dX12_whyItemNot_126 rfl rfl ?_
                      obtain ⟨Q96, hr, h⟩ := h
                      refine bw_cVi (As := [.int a1]) (st := [.int a2, .int 1, .ref 50]) cv_BentWordsModel_333 rfl rfl hr rfl rfl (Nat.le_of_ble_eq_true rfl) dX12_whyItemNot_127 (fun v97 w98 hv => ?_)
                      replace h := h v97 w98 hv
                      clear hr
                      refine bw_aload_n (i := 0) dX12_whyItemNot_130 rfl rfl ?_
                      refine bw_getr (r := 66) fg_BentWordsModel_56 rfl rfl dX12_whyItemNot_131 ?_
                      refine bw_aload_n (i := 0) dX12_whyItemNot_134 rfl rfl ?_
                      refine bw_iload_n (i := 2) dX12_whyItemNot_135 rfl rfl ?_
                      obtain ⟨Q99, hr, h⟩ := h
                      refine bw_cVi (As := [.int a1]) (st := [.ref 66, .int v97, .int a2, .int 1, .ref 50]) cv_BentWordsModel_330 rfl rfl hr rfl rfl (Nat.le_of_ble_eq_true rfl) dX12_whyItemNot_136 (fun v100 w101 hv => ?_)
                      replace h := h v100 w101 hv
                      clear hr
                      obtain ⟨hi102, h⟩ := h
                      refine bw_iaload rfl hi102 dX12_whyItemNot_139 ?_
                      obtain ⟨Q103, hr, h⟩ := h
                      refine bw_cVb (As := [.int 1, .int a2, .int v97, .int (gw_i w101 66 (v100.toNatClampNeg))]) (st := []) cv_BentWordsModel_336 rfl rfl hr rfl rfl (Nat.le_of_ble_eq_true rfl) dX12_whyItemNot_140 (fun v104 w105 hv => ?_)
                      replace h := h v104 w105 hv
                      clear hr
                      refine bw_ifb_ne (tgt := 148) dX12_whyItemNot_143 (by decide) (fun c => ?_) (fun c => ?_)
                      · replace h := h.1 (c)
                        refine bw_iload_n (i := 1) dX12_whyItemNot_148 rfl rfl ?_
                        refine bw_iconst (v := 3) dX12_whyItemNot_149 (by decide) ?_
                        refine bw_icmp_eq (tgt := 175) dX12_whyItemNot_150 (by decide) (fun c => ?_) (fun c => ?_)
                        · replace h := h.1 (c)
                          refine bw_iconst (v := (-1)) dX12_whyItemNot_175 (by decide) ?_
                          exact bw_ireturn dX12_whyItemNot_176 rfl rfl ⟨_, rfl, h⟩
                        · replace h := h.2 (c)
                          refine bw_aload_n (i := 0) dX12_whyItemNot_153 rfl rfl ?_
                          refine bw_aload_n (i := 0) dX12_whyItemNot_154 rfl rfl ?_
                          refine bw_iload_n (i := 2) dX12_whyItemNot_155 rfl rfl ?_
                          obtain ⟨Q106, hr, h⟩ := h
                          refine bw_cVi (As := [.int a1]) (st := [.ref 50]) cv_BentWordsModel_330 rfl rfl hr rfl rfl (Nat.le_of_ble_eq_true rfl) dX12_whyItemNot_156 (fun v107 w108 hv => ?_)
                          replace h := h v107 w108 hv
                          clear hr
                          refine bw_iload_n (i := 3) dX12_whyItemNot_159 rfl rfl ?_
                          refine bw_aload_n (i := 0) dX12_whyItemNot_160 rfl rfl ?_
                          refine bw_iload_n (i := 2) dX12_whyItemNot_161 rfl rfl ?_
                          obtain ⟨Q109, hr, h⟩ := h
                          refine bw_cVi (As := [.int a1]) (st := [.int a2, .int v107, .ref 50]) cv_BentWordsModel_333 rfl rfl hr rfl rfl (Nat.le_of_ble_eq_true rfl) dX12_whyItemNot_162 (fun v110 w111 hv => ?_)
                          replace h := h v110 w111 hv
                          clear hr
                          obtain ⟨Q112, hr, h⟩ := h
                          refine bw_cVi (As := [.int v107, .int a2, .int v110]) (st := []) cv_BentWordsModel_300 rfl rfl hr rfl rfl (Nat.le_of_ble_eq_true rfl) dX12_whyItemNot_165 (fun v113 w114 hv => ?_)
                          replace h := h v113 w114 hv
                          clear hr
                          refine bw_if_le (tgt := 175) dX12_whyItemNot_168 (by decide) (fun c => ?_) (fun c => ?_)
                          · replace h := h.1 (c)
                            refine bw_iconst (v := (-1)) dX12_whyItemNot_175 (by decide) ?_
                            exact bw_ireturn dX12_whyItemNot_176 rfl rfl ⟨_, rfl, h⟩
                          · replace h := h.2 (c)
                            refine bw_iconst (v := 1) dX12_whyItemNot_171 (by decide) ?_
                            refine bw_goto (tgt := 176) dX12_whyItemNot_172 (by decide) ?_
                            exact bw_ireturn dX12_whyItemNot_176 rfl rfl ⟨_, rfl, h⟩
                      · replace h := h.2 (c)
                        refine bw_iconst (v := 4) dX12_whyItemNot_146 (by decide) ?_
                        exact bw_ireturn dX12_whyItemNot_147 rfl rfl ⟨_, rfl, h⟩
                · replace h := h.2 (c)
                  refine bw_iconst (v := (-1)) dX12_whyItemNot_106 (by decide) ?_
                  exact bw_ireturn dX12_whyItemNot_107 rfl rfl ⟨_, rfl, h⟩
            · replace h := h.2 (c)
              refine bw_aload_n (i := 0) dX12_whyItemNot_61 rfl rfl ?_
              refine bw_getr (r := 66) fg_BentWordsModel_56 rfl rfl dX12_whyItemNot_62 ?_
              refine bw_aload_n (i := 0) dX12_whyItemNot_65 rfl rfl ?_
              refine bw_iload_n (i := 2) dX12_whyItemNot_66 rfl rfl ?_
              obtain ⟨Q115, hr, h⟩ := h
              refine bw_cVi (As := [.int a1]) (st := [.ref 66]) cv_BentWordsModel_330 rfl rfl hr rfl rfl (Nat.le_of_ble_eq_true rfl) dX12_whyItemNot_67 (fun v116 w117 hv => ?_)
              replace h := h v116 w117 hv
              clear hr
              obtain ⟨hi118, h⟩ := h
              refine bw_iaload rfl hi118 dX12_whyItemNot_70 ?_
              refine bw_aload_n (i := 0) dX12_whyItemNot_71 rfl rfl ?_
              refine bw_getr (r := 66) fg_BentWordsModel_56 rfl rfl dX12_whyItemNot_72 ?_
              refine bw_aload_n (i := 0) dX12_whyItemNot_75 rfl rfl ?_
              refine bw_iload_n (i := 3) dX12_whyItemNot_76 rfl rfl ?_
              obtain ⟨Q119, hr, h⟩ := h
              refine bw_cVi (As := [.int a2]) (st := [.ref 66, .int (gw_i w117 66 (v116.toNatClampNeg))]) cv_BentWordsModel_330 rfl rfl hr rfl rfl (Nat.le_of_ble_eq_true rfl) dX12_whyItemNot_77 (fun v120 w121 hv => ?_)
              replace h := h v120 w121 hv
              clear hr
              obtain ⟨hi122, h⟩ := h
              refine bw_iaload rfl hi122 dX12_whyItemNot_80 ?_
              refine bw_icmp_ne (tgt := 88) dX12_whyItemNot_81 (by decide) (fun c => ?_) (fun c => ?_)
              · replace h := h.1 (c)
                refine bw_iconst (v := 3) dX12_whyItemNot_88 (by decide) ?_
                exact bw_ireturn dX12_whyItemNot_89 rfl rfl ⟨_, rfl, h⟩
              · replace h := h.2 (c)
                refine bw_iconst (v := (-1)) dX12_whyItemNot_84 (by decide) ?_
                refine bw_goto (tgt := 89) dX12_whyItemNot_85 (by decide) ?_
                exact bw_ireturn dX12_whyItemNot_89 rfl rfl ⟨_, rfl, h⟩
          · replace h := h.2 (c)
            refine bw_aload_n (i := 0) dX12_whyItemNot_36 rfl rfl ?_
            refine bw_iload_n (i := 2) dX12_whyItemNot_37 rfl rfl ?_
            obtain ⟨Q123, hr, h⟩ := h
            refine bw_cVi (As := [.int a1]) (st := []) cv_BentWordsModel_333 rfl rfl hr rfl rfl (Nat.le_of_ble_eq_true rfl) dX12_whyItemNot_38 (fun v124 w125 hv => ?_)
            replace h := h v124 w125 hv
            clear hr
            refine bw_aload_n (i := 0) dX12_whyItemNot_41 rfl rfl ?_
            refine bw_iload_n (i := 3) dX12_whyItemNot_42 rfl rfl ?_
            obtain ⟨Q126, hr, h⟩ := h
            refine bw_cVi (As := [.int a2]) (st := [.int v124]) cv_BentWordsModel_333 rfl rfl hr rfl rfl (Nat.le_of_ble_eq_true rfl) dX12_whyItemNot_43 (fun v127 w128 hv => ?_)
            replace h := h v127 w128 hv
            clear hr
            refine bw_icmp_ne (tgt := 53) dX12_whyItemNot_46 (by decide) (fun c => ?_) (fun c => ?_)
            · replace h := h.1 (c)
              refine bw_iconst (v := 2) dX12_whyItemNot_53 (by decide) ?_
              exact bw_ireturn dX12_whyItemNot_54 rfl rfl ⟨_, rfl, h⟩
            · replace h := h.2 (c)
              refine bw_iconst (v := (-1)) dX12_whyItemNot_49 (by decide) ?_
              refine bw_goto (tgt := 54) dX12_whyItemNot_50 (by decide) ?_
              exact bw_ireturn dX12_whyItemNot_54 rfl rfl ⟨_, rfl, h⟩
        · replace h := h.2 (c)
          refine bw_iconst (v := 0) dX12_whyItemNot_29 (by decide) ?_
          exact bw_ireturn dX12_whyItemNot_30 rfl rfl ⟨_, rfl, h⟩
  · replace h := h.2 (c)
    refine bw_iconst (v := (-1)) dX12_whyItemNot_4 (by decide) ?_
    exact bw_ireturn dX12_whyItemNot_5 rfl rfl ⟨_, rfl, h⟩
theorem wfX12_whyNot {E : bw_E} {d : Nat} {w : bw_W} {Q : Int32 → bw_W → Prop} {a0 : Int32} {a1 : Int32} {a2 : Int32} {a3 : Int32} {a4 : Int64}  (h : ((a0 = 0 → (∃ Q1 : Int32 → bw_W → Prop, bw_ri E (d + 2) mX12_whyFill [.ref 50, .int a1, .int a2, .int a3] w Q1 ∧ ∀ v2 w3, Q1 v2 w3 →
Q v2 w3)) ∧ (a0 = 1 → (∃ Q4 : Bool → bw_W → Prop, bw_rb E (d + 2) mX12_isHole [.ref 50, .int a1] w Q4 ∧ ∀ v5 w6, Q4 v5 w6 →
((v5 = true → (∃ Q7 : Int32 → bw_W → Prop, bw_ri E (d + 2) mX12_nounIn [.ref 50, .int a1] w6 Q7 ∧ ∀ v8 w9, Q7 v8 w9 →
((¬ v8 = (-1) → Q (-1) w9) ∧ (v8 = (-1) → Q 2 w9)))) ∧ (v5 = false → Q 0 w6)))) ∧ (a0 = 2 → (∃ Q10 : Bool → bw_W → Prop, bw_rb E (d + 2) mX12_isLexicon [.ref 50] w Q10 ∧ ∀ v11 w12, Q10 v11 w12 →
((v11 = true → (∃ Q13 : Bool → bw_W → Prop, bw_rb E (d + 2) mX12_in [.int a1, .int 0, .int 1] w12 Q13 ∧ ∀ v14 w15, Q13 v14 w15 →
((v14 = true → ((¬ (gw_l w15 63 0) = (a1.toInt64) → Q (-1) w15) ∧ ((gw_l w15 63 0) = (a1.toInt64) → Q 2 w15))) ∧ (v14 = false → Q 1 w15)))) ∧ (v11 = false → Q 0 w12)))) ∧ (a0 = 3 → (∃ Q16 : Bool → bw_W → Prop, bw_rb E (d + 2) mX12_isNoun [.ref 50, .int a1] w Q16 ∧ ∀ v17 w18, Q16 v17 w18 →
((v17 = true → (∃ Q19 : Bool → bw_W → Prop, bw_rb E (d + 2) mX12_isForm [.int a2, .int a3] w18 Q19 ∧ ∀ v20 w21, Q19 v20 w21 →
((v20 = false → Q 1 w21) ∧ (v20 = true → ((¬ a4 = 0 → (∃ Q22 : Int64 → bw_W → Prop, bw_rl E (d + 2) mX12_told [.ref 50, .int a1, .int a2, .int a3] w21 Q22 ∧ ∀ v23 w24, Q22 v23 w24 →
((¬ v23 = a4 → Q (-1) w24) ∧ (v23 = a4 → Q 2 w24)))) ∧ (a4 = 0 → Q 1 w21)))))) ∧ (v17 = false → Q 0 w18)))) ∧ (a0.toInt < 0 ∨ 3 < a0.toInt → (∃ Q25 : Bool → bw_W → Prop, bw_rb E (d + 2) mX12_isNoun [.ref 50, .int a1] w Q25 ∧ ∀ v26 w27, Q25 v26 w27 →
((v26 = true → (∃ Q28 : Bool → bw_W → Prop, bw_rb E (d + 2) mX12_isForm [.int a2, .int a3] w27 Q28 ∧ ∀ v29 w30, Q28 v29 w30 →
((v29 = true → (∃ Q31 : Int64 → bw_W → Prop, bw_rl E (d + 2) mX12_told [.ref 50, .int a1, .int a2, .int a3] w30 Q31 ∧ ∀ v32 w33, Q31 v32 w33 →
((¬ v32 = 0 → Q (-1) w33) ∧ (v32 = 0 → Q 2 w33)))) ∧ (v29 = false → Q 1 w30)))) ∧ (v26 = false → Q 0 w27)))))) : bw_ri E (d + 3) mX12_whyNot [.ref 50, .int a0, .int a1, .int a2, .int a3, .long a4] w Q := by
  refine bw_enter rfl (Nat.le_of_ble_eq_true rfl) ?_
  refine bw_iload_n (i := 1) dX12_whyNot_0 rfl rfl ?_
  refine bw_tabsw dX12_whyNot_1 [32, 41, 68, 110] 162 (by decide) rfl rfl (fun j hj hx => ?_) (fun hx => ?_)
  · match j, hj, hx with
    | 0, _, hx =>
      replace h := h.1 (bw_ti hx (by decide))
      refine bw_aload_n (i := 0) dX12_whyNot_32 rfl rfl ?_
      refine bw_iload_n (i := 2) dX12_whyNot_33 rfl rfl ?_
      refine bw_iload_n (i := 3) dX12_whyNot_34 rfl rfl ?_
      refine bw_iload dX12_whyNot_35 rfl ?_
      obtain ⟨Q1, hr, h⟩ := h
      refine bw_cVi (As := [.int a1, .int a2, .int a3]) (st := []) cv_BentWordsModel_379 rfl rfl hr rfl rfl (Nat.le_of_ble_eq_true rfl) dX12_whyNot_37 (fun v2 w3 hv => ?_)
      replace h := h v2 w3 hv
      clear hr
      exact bw_ireturn dX12_whyNot_40 rfl rfl ⟨_, rfl, h⟩
    | 1, _, hx =>
      replace h := h.2.1 (bw_ti hx (by decide))
      refine bw_aload_n (i := 0) dX12_whyNot_41 rfl rfl ?_
      refine bw_iload_n (i := 2) dX12_whyNot_42 rfl rfl ?_
      obtain ⟨Q4, hr, h⟩ := h
      refine bw_cVb (As := [.int a1]) (st := []) cv_BentWordsModel_373 rfl rfl hr rfl rfl (Nat.le_of_ble_eq_true rfl) dX12_whyNot_43 (fun v5 w6 hv => ?_)
      replace h := h v5 w6 hv
      clear hr
      refine bw_ifb_ne (tgt := 53) dX12_whyNot_46 (by decide) (fun c => ?_) (fun c => ?_)
      · replace h := h.1 (c)
        refine bw_aload_n (i := 0) dX12_whyNot_53 rfl rfl ?_
        refine bw_iload_n (i := 2) dX12_whyNot_54 rfl rfl ?_
        obtain ⟨Q7, hr, h⟩ := h
        refine bw_cVi (As := [.int a1]) (st := []) cv_BentWordsModel_330 rfl rfl hr rfl rfl (Nat.le_of_ble_eq_true rfl) dX12_whyNot_55 (fun v8 w9 hv => ?_)
        replace h := h v8 w9 hv
        clear hr
        refine bw_iconst (v := (-1)) dX12_whyNot_58 (by decide) ?_
        refine bw_icmp_ne (tgt := 66) dX12_whyNot_59 (by decide) (fun c => ?_) (fun c => ?_)
        · replace h := h.1 (c)
          refine bw_iconst (v := (-1)) dX12_whyNot_66 (by decide) ?_
          exact bw_ireturn dX12_whyNot_67 rfl rfl ⟨_, rfl, h⟩
        · replace h := h.2 (c)
          refine bw_iconst (v := 2) dX12_whyNot_62 (by decide) ?_
          refine bw_goto (tgt := 67) dX12_whyNot_63 (by decide) ?_
          exact bw_ireturn dX12_whyNot_67 rfl rfl ⟨_, rfl, h⟩
      · replace h := h.2 (c)
        refine bw_iconst (v := 0) dX12_whyNot_49 (by decide) ?_
        refine bw_goto (tgt := 67) dX12_whyNot_50 (by decide) ?_
        exact bw_ireturn dX12_whyNot_67 rfl rfl ⟨_, rfl, h⟩
    | 2, _, hx =>
      replace h := h.2.2.1 (bw_ti hx (by decide))
      refine bw_aload_n (i := 0) dX12_whyNot_68 rfl rfl ?_
      obtain ⟨Q10, hr, h⟩ := h
      refine bw_cVb (As := []) (st := []) cv_BentWordsModel_272 rfl rfl hr rfl rfl (Nat.le_of_ble_eq_true rfl) dX12_whyNot_69 (fun v11 w12 hv => ?_)
      replace h := h v11 w12 hv
      clear hr
      refine bw_ifb_ne (tgt := 79) dX12_whyNot_72 (by decide) (fun c => ?_) (fun c => ?_)
      · replace h := h.1 (c)
        refine bw_iload_n (i := 2) dX12_whyNot_79 rfl rfl ?_
        refine bw_iconst (v := 0) dX12_whyNot_80 (by decide) ?_
        refine bw_iconst (v := 1) dX12_whyNot_81 (by decide) ?_
        obtain ⟨Q13, hr, h⟩ := h
        refine bw_cSb (As := [.int a1, .int 0, .int 1]) (st := []) cs_BentWordsModel_100 hr rfl rfl (Nat.le_of_ble_eq_true rfl) dX12_whyNot_82 (fun v14 w15 hv => ?_)
        replace h := h v14 w15 hv
        clear hr
        refine bw_ifb_ne (tgt := 92) dX12_whyNot_85 (by decide) (fun c => ?_) (fun c => ?_)
        · replace h := h.1 (c)
          refine bw_aload_n (i := 0) dX12_whyNot_92 rfl rfl ?_
          refine bw_getr (r := 63) fg_BentWordsModel_47 rfl rfl dX12_whyNot_93 ?_
          refine bw_iconst (v := 0) dX12_whyNot_96 (by decide) ?_
          refine bw_laload rfl (by unfold vp_in; decide) dX12_whyNot_97 ?_
          rw [show gw_l w15 63 (Int32.toNatClampNeg 0) = (gw_l w15 63 0) from rfl]
          refine bw_iload_n (i := 2) dX12_whyNot_98 rfl rfl ?_
          refine bw_i2l dX12_whyNot_99 ?_
          refine bw_lcmp_ne (tgt := 108) dX12_whyNot_100 dX12_whyNot_101 (by decide) (fun c => ?_) (fun c => ?_)
          · replace h := h.1 (c)
            refine bw_iconst (v := (-1)) dX12_whyNot_108 (by decide) ?_
            exact bw_ireturn dX12_whyNot_109 rfl rfl ⟨_, rfl, h⟩
          · replace h := h.2 (c)
            refine bw_iconst (v := 2) dX12_whyNot_104 (by decide) ?_
            refine bw_goto (tgt := 109) dX12_whyNot_105 (by decide) ?_
            exact bw_ireturn dX12_whyNot_109 rfl rfl ⟨_, rfl, h⟩
        · replace h := h.2 (c)
          refine bw_iconst (v := 1) dX12_whyNot_88 (by decide) ?_
          refine bw_goto (tgt := 109) dX12_whyNot_89 (by decide) ?_
          exact bw_ireturn dX12_whyNot_109 rfl rfl ⟨_, rfl, h⟩
      · replace h := h.2 (c)
        refine bw_iconst (v := 0) dX12_whyNot_75 (by decide) ?_
        refine bw_goto (tgt := 109) dX12_whyNot_76 (by decide) ?_
        exact bw_ireturn dX12_whyNot_109 rfl rfl ⟨_, rfl, h⟩
    | 3, _, hx =>
      replace h := h.2.2.2.1 (bw_ti hx (by decide))
      refine bw_aload_n (i := 0) dX12_whyNot_110 rfl rfl ?_
      refine bw_iload_n (i := 2) dX12_whyNot_111 rfl rfl ?_
      obtain ⟨Q16, hr, h⟩ := h
      refine bw_cVb (As := [.int a1]) (st := []) cv_BentWordsModel_376 rfl rfl hr rfl rfl (Nat.le_of_ble_eq_true rfl) dX12_whyNot_112 (fun v17 w18 hv => ?_)
      replace h := h v17 w18 hv
      clear hr
      refine bw_ifb_ne (tgt := 122) dX12_whyNot_115 (by decide) (fun c => ?_) (fun c => ?_)
      · replace h := h.1 (c)
        refine bw_iload_n (i := 3) dX12_whyNot_122 rfl rfl ?_
        refine bw_iload dX12_whyNot_123 rfl ?_
        obtain ⟨Q19, hr, h⟩ := h
        refine bw_cSb (As := [.int a2, .int a3]) (st := []) cs_BentWordsModel_382 hr rfl rfl (Nat.le_of_ble_eq_true rfl) dX12_whyNot_125 (fun v20 w21 hv => ?_)
        replace h := h v20 w21 hv
        clear hr
        refine bw_ifb_eq (tgt := 138) dX12_whyNot_128 (by decide) (fun c => ?_) (fun c => ?_)
        · replace h := h.1 (c)
          refine bw_iconst (v := 1) dX12_whyNot_138 (by decide) ?_
          refine bw_goto (tgt := 161) dX12_whyNot_139 (by decide) ?_
          exact bw_ireturn dX12_whyNot_161 rfl rfl ⟨_, rfl, h⟩
        · replace h := h.2 (c)
          refine bw_lload dX12_whyNot_131 rfl ?_
          refine bw_lconst (v := 0) dX12_whyNot_133 rfl ?_
          refine bw_lcmp_ne (tgt := 142) dX12_whyNot_134 dX12_whyNot_135 (by decide) (fun c => ?_) (fun c => ?_)
          · replace h := h.1 (c)
            refine bw_aload_n (i := 0) dX12_whyNot_142 rfl rfl ?_
            refine bw_iload_n (i := 2) dX12_whyNot_143 rfl rfl ?_
            refine bw_iload_n (i := 3) dX12_whyNot_144 rfl rfl ?_
            refine bw_iload dX12_whyNot_145 rfl ?_
            obtain ⟨Q22, hr, h⟩ := h
            refine bw_cVl (As := [.int a1, .int a2, .int a3]) (st := []) cv_BentWordsModel_296 rfl rfl hr rfl rfl (Nat.le_of_ble_eq_true rfl) dX12_whyNot_147 (fun v23 w24 hv => ?_)
            replace h := h v23 w24 hv
            clear hr
            refine bw_lload dX12_whyNot_150 rfl ?_
            refine bw_lcmp_ne (tgt := 160) dX12_whyNot_152 dX12_whyNot_153 (by decide) (fun c => ?_) (fun c => ?_)
            · replace h := h.1 (c)
              refine bw_iconst (v := (-1)) dX12_whyNot_160 (by decide) ?_
              exact bw_ireturn dX12_whyNot_161 rfl rfl ⟨_, rfl, h⟩
            · replace h := h.2 (c)
              refine bw_iconst (v := 2) dX12_whyNot_156 (by decide) ?_
              refine bw_goto (tgt := 161) dX12_whyNot_157 (by decide) ?_
              exact bw_ireturn dX12_whyNot_161 rfl rfl ⟨_, rfl, h⟩
          · replace h := h.2 (c)
            refine bw_iconst (v := 1) dX12_whyNot_138 (by decide) ?_
            refine bw_goto (tgt := 161) dX12_whyNot_139 (by decide) ?_
            exact bw_ireturn dX12_whyNot_161 rfl rfl ⟨_, rfl, h⟩
      · replace h := h.2 (c)
        refine bw_iconst (v := 0) dX12_whyNot_118 (by decide) ?_
        refine bw_goto (tgt := 161) dX12_whyNot_119 (by decide) ?_
        exact bw_ireturn dX12_whyNot_161 rfl rfl ⟨_, rfl, h⟩
    | j + 4, hj, _ => exact absurd hj (by simp)
  · replace h := h.2.2.2.2 hx
    refine bw_aload_n (i := 0) dX12_whyNot_162 rfl rfl ?_
    refine bw_iload_n (i := 2) dX12_whyNot_163 rfl rfl ?_
    obtain ⟨Q25, hr, h⟩ := h
    refine bw_cVb (As := [.int a1]) (st := []) cv_BentWordsModel_376 rfl rfl hr rfl rfl (Nat.le_of_ble_eq_true rfl) dX12_whyNot_164 (fun v26 w27 hv => ?_)
    replace h := h v26 w27 hv
    clear hr
    refine bw_ifb_ne (tgt := 174) dX12_whyNot_167 (by decide) (fun c => ?_) (fun c => ?_)
    · replace h := h.1 (c)
      refine bw_iload_n (i := 3) dX12_whyNot_174 rfl rfl ?_
      refine bw_iload dX12_whyNot_175 rfl ?_
      obtain ⟨Q28, hr, h⟩ := h
      refine bw_cSb (As := [.int a2, .int a3]) (st := []) cs_BentWordsModel_382 hr rfl rfl (Nat.le_of_ble_eq_true rfl) dX12_whyNot_177 (fun v29 w30 hv => ?_)
      replace h := h v29 w30 hv
      clear hr
      refine bw_ifb_ne (tgt := 187) dX12_whyNot_180 (by decide) (fun c => ?_) (fun c => ?_)
      · replace h := h.1 (c)
        refine bw_aload_n (i := 0) dX12_whyNot_187 rfl rfl ?_
        refine bw_iload_n (i := 2) dX12_whyNot_188 rfl rfl ?_
        refine bw_iload_n (i := 3) dX12_whyNot_189 rfl rfl ?_
        refine bw_iload dX12_whyNot_190 rfl ?_
        obtain ⟨Q31, hr, h⟩ := h
        refine bw_cVl (As := [.int a1, .int a2, .int a3]) (st := []) cv_BentWordsModel_296 rfl rfl hr rfl rfl (Nat.le_of_ble_eq_true rfl) dX12_whyNot_192 (fun v32 w33 hv => ?_)
        replace h := h v32 w33 hv
        clear hr
        refine bw_lconst (v := 0) dX12_whyNot_195 rfl ?_
        refine bw_lcmp_ne (tgt := 204) dX12_whyNot_196 dX12_whyNot_197 (by decide) (fun c => ?_) (fun c => ?_)
        · replace h := h.1 (c)
          refine bw_iconst (v := (-1)) dX12_whyNot_204 (by decide) ?_
          exact bw_ireturn dX12_whyNot_205 rfl rfl ⟨_, rfl, h⟩
        · replace h := h.2 (c)
          refine bw_iconst (v := 2) dX12_whyNot_200 (by decide) ?_
          refine bw_goto (tgt := 205) dX12_whyNot_201 (by decide) ?_
          exact bw_ireturn dX12_whyNot_205 rfl rfl ⟨_, rfl, h⟩
      · replace h := h.2 (c)
        refine bw_iconst (v := 1) dX12_whyNot_183 (by decide) ?_
        refine bw_goto (tgt := 205) dX12_whyNot_184 (by decide) ?_
        exact bw_ireturn dX12_whyNot_205 rfl rfl ⟨_, rfl, h⟩
    · replace h := h.2 (c)
      refine bw_iconst (v := 0) dX12_whyNot_170 (by decide) ?_
      refine bw_goto (tgt := 205) dX12_whyNot_171 (by decide) ?_
      exact bw_ireturn dX12_whyNot_205 rfl rfl ⟨_, rfl, h⟩
theorem wfX12_byDefault {E : bw_E} {d : Nat} {w : bw_W} {Q : Int32 → bw_W → Prop} {a0 : Int32} {a1 : Int32} {a2 : Int32}  (h : (∃ Q1 : Bool → bw_W → Prop, bw_rb E (d + 2) mX12_isNoun [.ref 50, .int a0] w Q1 ∧ ∀ v2 w3, Q1 v2 w3 →
((v2 = false → Q (-1) w3) ∧ (v2 = true → (∃ Q4 : Bool → bw_W → Prop, bw_rb E (d + 2) mX12_isForm [.int a1, .int a2] w3 Q4 ∧ ∀ v5 w6, Q4 v5 w6 →
((v5 = false → Q (-1) w6) ∧ (v5 = true → (∃ Q7 : Int32 → bw_W → Prop, bw_ri E (d + 2) mX12_defaultOf [.ref 50, .int a0, .int a1, .int a2] w6 Q7 ∧ ∀ v8 w9, Q7 v8 w9 →
Q v8 w9)))))))) : bw_ri E (d + 3) mX12_byDefault [.ref 50, .int a0, .int a1, .int a2] w Q := by
  refine bw_enter rfl (Nat.le_of_ble_eq_true rfl) ?_
  refine bw_aload_n (i := 0) dX12_byDefault_0 rfl rfl ?_
  refine bw_iload_n (i := 1) dX12_byDefault_1 rfl rfl ?_
  obtain ⟨Q1, hr, h⟩ := h
  refine bw_cVb (As := [.int a0]) (st := []) cv_BentWordsModel_376 rfl rfl hr rfl rfl (Nat.le_of_ble_eq_true rfl) dX12_byDefault_2 (fun v2 w3 hv => ?_)
  replace h := h v2 w3 hv
  clear hr
  refine bw_ifb_eq (tgt := 26) dX12_byDefault_5 (by decide) (fun c => ?_) (fun c => ?_)
  · replace h := h.1 (c)
    refine bw_iconst (v := (-1)) dX12_byDefault_26 (by decide) ?_
    exact bw_ireturn dX12_byDefault_27 rfl rfl ⟨_, rfl, h⟩
  · replace h := h.2 (c)
    refine bw_iload_n (i := 2) dX12_byDefault_8 rfl rfl ?_
    refine bw_iload_n (i := 3) dX12_byDefault_9 rfl rfl ?_
    obtain ⟨Q4, hr, h⟩ := h
    refine bw_cSb (As := [.int a1, .int a2]) (st := []) cs_BentWordsModel_382 hr rfl rfl (Nat.le_of_ble_eq_true rfl) dX12_byDefault_10 (fun v5 w6 hv => ?_)
    replace h := h v5 w6 hv
    clear hr
    refine bw_ifb_eq (tgt := 26) dX12_byDefault_13 (by decide) (fun c => ?_) (fun c => ?_)
    · replace h := h.1 (c)
      refine bw_iconst (v := (-1)) dX12_byDefault_26 (by decide) ?_
      exact bw_ireturn dX12_byDefault_27 rfl rfl ⟨_, rfl, h⟩
    · replace h := h.2 (c)
      refine bw_aload_n (i := 0) dX12_byDefault_16 rfl rfl ?_
      refine bw_iload_n (i := 1) dX12_byDefault_17 rfl rfl ?_
      refine bw_iload_n (i := 2) dX12_byDefault_18 rfl rfl ?_
      refine bw_iload_n (i := 3) dX12_byDefault_19 rfl rfl ?_
      obtain ⟨Q7, hr, h⟩ := h
      refine bw_cVi (As := [.int a0, .int a1, .int a2]) (st := []) cv_BentWordsModel_300 rfl rfl hr rfl rfl (Nat.le_of_ble_eq_true rfl) dX12_byDefault_20 (fun v8 w9 hv => ?_)
      replace h := h v8 w9 hv
      clear hr
      refine bw_goto (tgt := 27) dX12_byDefault_23 (by decide) ?_
      exact bw_ireturn dX12_byDefault_27 rfl rfl ⟨_, rfl, h⟩
theorem wfX12_word {E : bw_E} {d : Nat} {w : bw_W} {Q : Int32 → bw_W → Prop} {a0 : Bool} {a1 : Int32} {a2 : Int32} {a3 : Int32} {a4 : Int32}  (h : (∃ Q1 : Bool → bw_W → Prop, bw_rb E (d + 2) mX12_isLexicon [.ref 50] w Q1 ∧ ∀ v2 w3, Q1 v2 w3 →
((v2 = false → Q (-1) w3) ∧ (v2 = true → (∃ Q4 : Bool → bw_W → Prop, bw_rb E (d + 2) mX12_isForm [.int a1, .int a2] w3 Q4 ∧ ∀ v5 w6, Q4 v5 w6 →
((v5 = false → Q (-1) w6) ∧ (v5 = true → (∃ Q7 : Bool → bw_W → Prop, bw_rb E (d + 2) mX12_in [.int a3, .int 0, .int 2] w6 Q7 ∧ ∀ v8 w9, Q7 v8 w9 →
((v8 = true → (∃ Q10 : Int64 → bw_W → Prop, bw_rl E (d + 2) mX12_wordOf [.ref 50, .int (bw_b a0), .int a1, .int a2, .int a3] w9 Q10 ∧ ∀ v11 w12, Q10 v11 w12 →
(∃ Q13 : Int32 → bw_W → Prop, bw_ri E (d + 2) mX12_letter [.long v11, .int a4] w12 Q13 ∧ ∀ v14 w15, Q13 v14 w15 →
Q v14 w15))) ∧ (v8 = false → Q (-1) w9)))))))))) : bw_ri E (d + 3) mX12_word [.ref 50, .int (bw_b a0), .int a1, .int a2, .int a3, .int a4] w Q := by
  refine bw_enter rfl (Nat.le_of_ble_eq_true rfl) ?_
  refine bw_aload_n (i := 0) dX12_word_0 rfl rfl ?_
  obtain ⟨Q1, hr, h⟩ := h
  refine bw_cVb (As := []) (st := []) cv_BentWordsModel_272 rfl rfl hr rfl rfl (Nat.le_of_ble_eq_true rfl) dX12_word_1 (fun v2 w3 hv => ?_)
  replace h := h v2 w3 hv
  clear hr
  refine bw_ifb_eq (tgt := 25) dX12_word_4 (by decide) (fun c => ?_) (fun c => ?_)
  · replace h := h.1 (c)
    refine bw_iconst (v := (-1)) dX12_word_25 (by decide) ?_
    exact bw_ireturn dX12_word_26 rfl rfl ⟨_, rfl, h⟩
  · replace h := h.2 (c)
    refine bw_iload_n (i := 2) dX12_word_7 rfl rfl ?_
    refine bw_iload_n (i := 3) dX12_word_8 rfl rfl ?_
    obtain ⟨Q4, hr, h⟩ := h
    refine bw_cSb (As := [.int a1, .int a2]) (st := []) cs_BentWordsModel_382 hr rfl rfl (Nat.le_of_ble_eq_true rfl) dX12_word_9 (fun v5 w6 hv => ?_)
    replace h := h v5 w6 hv
    clear hr
    refine bw_ifb_eq (tgt := 25) dX12_word_12 (by decide) (fun c => ?_) (fun c => ?_)
    · replace h := h.1 (c)
      refine bw_iconst (v := (-1)) dX12_word_25 (by decide) ?_
      exact bw_ireturn dX12_word_26 rfl rfl ⟨_, rfl, h⟩
    · replace h := h.2 (c)
      refine bw_iload dX12_word_15 rfl ?_
      refine bw_iconst (v := 0) dX12_word_17 (by decide) ?_
      refine bw_iconst (v := 2) dX12_word_18 (by decide) ?_
      obtain ⟨Q7, hr, h⟩ := h
      refine bw_cSb (As := [.int a3, .int 0, .int 2]) (st := []) cs_BentWordsModel_100 hr rfl rfl (Nat.le_of_ble_eq_true rfl) dX12_word_19 (fun v8 w9 hv => ?_)
      replace h := h v8 w9 hv
      clear hr
      refine bw_ifb_ne (tgt := 27) dX12_word_22 (by decide) (fun c => ?_) (fun c => ?_)
      · replace h := h.1 (c)
        refine bw_aload_n (i := 0) dX12_word_27 rfl rfl ?_
        refine bw_iload_n (i := 1) dX12_word_28 rfl rfl ?_
        refine bw_iload_n (i := 2) dX12_word_29 rfl rfl ?_
        refine bw_iload_n (i := 3) dX12_word_30 rfl rfl ?_
        refine bw_iload dX12_word_31 rfl ?_
        obtain ⟨Q10, hr, h⟩ := h
        refine bw_cVl (As := [.int (bw_b a0), .int a1, .int a2, .int a3]) (st := []) cv_BentWordsModel_347 rfl rfl hr rfl rfl (Nat.le_of_ble_eq_true rfl) dX12_word_33 (fun v11 w12 hv => ?_)
        replace h := h v11 w12 hv
        clear hr
        refine bw_iload dX12_word_36 rfl ?_
        obtain ⟨Q13, hr, h⟩ := h
        refine bw_cSi (As := [.long v11, .int a4]) (st := []) cs_BentWordsModel_450 hr rfl rfl (Nat.le_of_ble_eq_true rfl) dX12_word_38 (fun v14 w15 hv => ?_)
        replace h := h v14 w15 hv
        clear hr
        exact bw_ireturn dX12_word_41 rfl rfl ⟨_, rfl, h⟩
      · replace h := h.2 (c)
        refine bw_iconst (v := (-1)) dX12_word_25 (by decide) ?_
        exact bw_ireturn dX12_word_26 rfl rfl ⟨_, rfl, h⟩
theorem wfX12_missingAt {E : bw_E} {d : Nat} {w : bw_W} {Q : Int32 → bw_W → Prop} {a0 : Int32}  (h : (∃ Q1 : Bool → bw_W → Prop, bw_rb E (d + 2) mX12_isFormItem [.ref 50, .int a0] w Q1 ∧ ∀ v2 w3, Q1 v2 w3 →
((v2 = false → Q 0 w3) ∧ (v2 = true → (vp_in ((3 * a0) + 1) 96) ∧
(∃ Q5 : Int32 → bw_W → Prop, bw_ri E (d + 2) mX12_nounIn [.ref 50, .int (gw_i w3 69 (((3 * a0) + 1).toNatClampNeg))] w3 Q5 ∧ ∀ v6 w7, Q5 v6 w7 →
((¬ v6 = (-1) → (vp_in ((3 * a0) + 1) 96) ∧
(∃ Q9 : Int32 → bw_W → Prop, bw_ri E (d + 2) mX12_nounIn [.ref 50, .int (gw_i w7 69 (((3 * a0) + 1).toNatClampNeg))] w7 Q9 ∧ ∀ v10 w11, Q9 v10 w11 →
(vp_in ((3 * a0) + 2) 96) ∧
(∃ Q13 : Int32 → bw_W → Prop, bw_ri E (d + 2) mX12_numberIn [.ref 50, .int (gw_i w7 69 (((3 * a0) + 1).toNatClampNeg))] w11 Q13 ∧ ∀ v14 w15, Q13 v14 w15 →
(∃ Q16 : Int32 → bw_W → Prop, bw_ri E (d + 2) mX12_defaultOf [.ref 50, .int v10, .int (gw_i w11 69 (((3 * a0) + 2).toNatClampNeg)), .int v14] w15 Q16 ∧ ∀ v17 w18, Q16 v17 w18 →
Q v17 w18)))) ∧ (v6 = (-1) → Q 0 w7))))))) : bw_ri E (d + 3) mX12_missingAt [.ref 50, .int a0] w Q := by
  refine bw_enter rfl (Nat.le_of_ble_eq_true rfl) ?_
  refine bw_aload_n (i := 0) dX12_missingAt_0 rfl rfl ?_
  refine bw_iload_n (i := 1) dX12_missingAt_1 rfl rfl ?_
  obtain ⟨Q1, hr, h⟩ := h
  refine bw_cVb (As := [.int a0]) (st := []) cv_BentWordsModel_459 rfl rfl hr rfl rfl (Nat.le_of_ble_eq_true rfl) dX12_missingAt_2 (fun v2 w3 hv => ?_)
  replace h := h v2 w3 hv
  clear hr
  refine bw_ifb_eq (tgt := 26) dX12_missingAt_5 (by decide) (fun c => ?_) (fun c => ?_)
  · replace h := h.1 (c)
    refine bw_iconst (v := 0) dX12_missingAt_26 (by decide) ?_
    exact bw_ireturn dX12_missingAt_27 rfl rfl ⟨_, rfl, h⟩
  · replace h := h.2 (c)
    refine bw_aload_n (i := 0) dX12_missingAt_8 rfl rfl ?_
    refine bw_aload_n (i := 0) dX12_missingAt_9 rfl rfl ?_
    refine bw_getr (r := 69) fg_BentWordsModel_65 rfl rfl dX12_missingAt_10 ?_
    refine bw_iconst (v := 3) dX12_missingAt_13 (by decide) ?_
    refine bw_iload_n (i := 1) dX12_missingAt_14 rfl rfl ?_
    refine bw_imul dX12_missingAt_15 ?_
    refine bw_iconst (v := 1) dX12_missingAt_16 (by decide) ?_
    refine bw_iadd dX12_missingAt_17 ?_
    obtain ⟨hi4, h⟩ := h
    refine bw_iaload rfl hi4 dX12_missingAt_18 ?_
    obtain ⟨Q5, hr, h⟩ := h
    refine bw_cVi (As := [.int (gw_i w3 69 (((3 * a0) + 1).toNatClampNeg))]) (st := []) cv_BentWordsModel_330 rfl rfl hr rfl rfl (Nat.le_of_ble_eq_true rfl) dX12_missingAt_19 (fun v6 w7 hv => ?_)
    replace h := h v6 w7 hv
    clear hr
    refine bw_iconst (v := (-1)) dX12_missingAt_22 (by decide) ?_
    refine bw_icmp_ne (tgt := 28) dX12_missingAt_23 (by decide) (fun c => ?_) (fun c => ?_)
    · replace h := h.1 (c)
      refine bw_aload_n (i := 0) dX12_missingAt_28 rfl rfl ?_
      refine bw_getr (r := 69) fg_BentWordsModel_65 rfl rfl dX12_missingAt_29 ?_
      refine bw_iconst (v := 3) dX12_missingAt_32 (by decide) ?_
      refine bw_iload_n (i := 1) dX12_missingAt_33 rfl rfl ?_
      refine bw_imul dX12_missingAt_34 ?_
      refine bw_iconst (v := 1) dX12_missingAt_35 (by decide) ?_
      refine bw_iadd dX12_missingAt_36 ?_
      obtain ⟨hi8, h⟩ := h
      refine bw_iaload rfl hi8 dX12_missingAt_37 ?_
      refine bw_istore_n (i := 2) (L' := [some (.ref 50), some (.int a0), some (.int (gw_i w7 69 (((3 * a0) + 1).toNatClampNeg)))]) dX12_missingAt_38 rfl (Nat.le_of_ble_eq_true rfl) rfl ?_
      refine bw_aload_n (i := 0) dX12_missingAt_39 rfl rfl ?_
      refine bw_aload_n (i := 0) dX12_missingAt_40 rfl rfl ?_
      refine bw_iload_n (i := 2) dX12_missingAt_41 rfl rfl ?_
      obtain ⟨Q9, hr, h⟩ := h
      refine bw_cVi (As := [.int (gw_i w7 69 (((3 * a0) + 1).toNatClampNeg))]) (st := [.ref 50]) cv_BentWordsModel_330 rfl rfl hr rfl rfl (Nat.le_of_ble_eq_true rfl) dX12_missingAt_42 (fun v10 w11 hv => ?_)
      replace h := h v10 w11 hv
      clear hr
      refine bw_aload_n (i := 0) dX12_missingAt_45 rfl rfl ?_
      refine bw_getr (r := 69) fg_BentWordsModel_65 rfl rfl dX12_missingAt_46 ?_
      refine bw_iconst (v := 3) dX12_missingAt_49 (by decide) ?_
      refine bw_iload_n (i := 1) dX12_missingAt_50 rfl rfl ?_
      refine bw_imul dX12_missingAt_51 ?_
      refine bw_iconst (v := 2) dX12_missingAt_52 (by decide) ?_
      refine bw_iadd dX12_missingAt_53 ?_
      obtain ⟨hi12, h⟩ := h
      refine bw_iaload rfl hi12 dX12_missingAt_54 ?_
      refine bw_aload_n (i := 0) dX12_missingAt_55 rfl rfl ?_
      refine bw_iload_n (i := 2) dX12_missingAt_56 rfl rfl ?_
      obtain ⟨Q13, hr, h⟩ := h
      refine bw_cVi (As := [.int (gw_i w7 69 (((3 * a0) + 1).toNatClampNeg))]) (st := [.int (gw_i w11 69 (((3 * a0) + 2).toNatClampNeg)), .int v10, .ref 50]) cv_BentWordsModel_333 rfl rfl hr rfl rfl (Nat.le_of_ble_eq_true rfl) dX12_missingAt_57 (fun v14 w15 hv => ?_)
      replace h := h v14 w15 hv
      clear hr
      obtain ⟨Q16, hr, h⟩ := h
      refine bw_cVi (As := [.int v10, .int (gw_i w11 69 (((3 * a0) + 2).toNatClampNeg)), .int v14]) (st := []) cv_BentWordsModel_300 rfl rfl hr rfl rfl (Nat.le_of_ble_eq_true rfl) dX12_missingAt_60 (fun v17 w18 hv => ?_)
      replace h := h v17 w18 hv
      clear hr
      exact bw_ireturn dX12_missingAt_63 rfl rfl ⟨_, rfl, h⟩
    · replace h := h.2 (c)
      refine bw_iconst (v := 0) dX12_missingAt_26 (by decide) ?_
      exact bw_ireturn dX12_missingAt_27 rfl rfl ⟨_, rfl, h⟩
theorem wfX12_fitsNoun_6 {E : bw_E} {d : Nat} {w : bw_W} {Q : Bool → bw_W → Prop} {l1 : Int32} {l2 : Int32} {l3 : Int32} {l4 : Int32}  (h : (vp_in l1 4) ∧
((((8 * l1) + (gw_i w 68 (l1.toNatClampNeg))) ≤ l4 → Q true w) ∧ (¬ (((8 * l1) + (gw_i w 68 (l1.toNatClampNeg))) ≤ l4) → (∃ Q2 : Bool → bw_W → Prop, bw_rb E (d + 2) mX12_isFormItem [.ref 50, .int l4] w Q2 ∧ ∀ v3 w4, Q2 v3 w4 →
((v3 = false → bw_G E (d + 3) mX12_fitsNoun 6 [some (.ref 50), some (.int l1), some (.int l2), some (.int l3), some (.int (l4 + 1)), none] [] w4 (bw_qb Q)) ∧ (v3 = true → (vp_in ((3 * l4) + 1) 96) ∧
((¬ (gw_i w4 69 (((3 * l4) + 1).toNatClampNeg)) = l2 → bw_G E (d + 3) mX12_fitsNoun 6 [some (.ref 50), some (.int l1), some (.int l2), some (.int l3), some (.int (l4 + 1)), none] [] w4 (bw_qb Q)) ∧ ((gw_i w4 69 (((3 * l4) + 1).toNatClampNeg)) = l2 → bw_G E (d + 3) mX12_fitsNoun 49 [some (.ref 50), some (.int l1), some (.int l2), some (.int l3), some (.int l4), some (.int 0)] [] w4 (bw_qb Q))))))))) : bw_G E (d + 3) mX12_fitsNoun 6 [some (.ref 50), some (.int l1), some (.int l2), some (.int l3), some (.int l4), none] [] w (bw_qb Q) := by
  refine bw_iload dX12_fitsNoun_6 rfl ?_
  refine bw_bipush (v := 8) dX12_fitsNoun_8 (by decide) ?_
  refine bw_iload_n (i := 1) dX12_fitsNoun_10 rfl rfl ?_
  refine bw_imul dX12_fitsNoun_11 ?_
  refine bw_aload_n (i := 0) dX12_fitsNoun_12 rfl rfl ?_
  refine bw_getr (r := 68) fg_BentWordsModel_62 rfl rfl dX12_fitsNoun_13 ?_
  refine bw_iload_n (i := 1) dX12_fitsNoun_16 rfl rfl ?_
  obtain ⟨hi1, h⟩ := h
  refine bw_iaload rfl hi1 dX12_fitsNoun_17 ?_
  refine bw_iadd dX12_fitsNoun_18 ?_
  refine bw_icmp_ge (tgt := 90) dX12_fitsNoun_19 (by decide) (fun c => ?_) (fun c => ?_)
  · replace h := h.1 (c)
    refine bw_iconst (v := 1) dX12_fitsNoun_90 (by decide) ?_
    exact bw_ireturn dX12_fitsNoun_91 rfl (bw_nb true) ⟨true, rfl, h⟩
  · replace h := h.2 (c)
    refine bw_aload_n (i := 0) dX12_fitsNoun_22 rfl rfl ?_
    refine bw_iload dX12_fitsNoun_23 rfl ?_
    obtain ⟨Q2, hr, h⟩ := h
    refine bw_cVb (As := [.int l4]) (st := []) cv_BentWordsModel_459 rfl rfl hr rfl rfl (Nat.le_of_ble_eq_true rfl) dX12_fitsNoun_25 (fun v3 w4 hv => ?_)
    replace h := h v3 w4 hv
    clear hr
    refine bw_ifb_eq (tgt := 84) dX12_fitsNoun_28 (by decide) (fun c => ?_) (fun c => ?_)
    · replace h := h.1 (c)
      refine bw_iinc (i := 4) (x := l4) (v := (l4 + 1)) (L' := [some (.ref 50), some (.int l1), some (.int l2), some (.int l3), some (.int (l4 + 1)), none]) dX12_fitsNoun_84 rfl rfl (Nat.le_of_ble_eq_true rfl) rfl ?_
      refine bw_goto (tgt := 6) dX12_fitsNoun_87 (by decide) ?_
      exact h
    · replace h := h.2 (c)
      refine bw_aload_n (i := 0) dX12_fitsNoun_31 rfl rfl ?_
      refine bw_getr (r := 69) fg_BentWordsModel_65 rfl rfl dX12_fitsNoun_32 ?_
      refine bw_iconst (v := 3) dX12_fitsNoun_35 (by decide) ?_
      refine bw_iload dX12_fitsNoun_36 rfl ?_
      refine bw_imul dX12_fitsNoun_38 ?_
      refine bw_iconst (v := 1) dX12_fitsNoun_39 (by decide) ?_
      refine bw_iadd dX12_fitsNoun_40 ?_
      obtain ⟨hi5, h⟩ := h
      refine bw_iaload rfl hi5 dX12_fitsNoun_41 ?_
      refine bw_iload_n (i := 2) dX12_fitsNoun_42 rfl rfl ?_
      refine bw_icmp_ne (tgt := 84) dX12_fitsNoun_43 (by decide) (fun c => ?_) (fun c => ?_)
      · replace h := h.1 (c)
        refine bw_iinc (i := 4) (x := l4) (v := (l4 + 1)) (L' := [some (.ref 50), some (.int l1), some (.int l2), some (.int l3), some (.int (l4 + 1)), none]) dX12_fitsNoun_84 rfl rfl (Nat.le_of_ble_eq_true rfl) rfl ?_
        refine bw_goto (tgt := 6) dX12_fitsNoun_87 (by decide) ?_
        exact h
      · replace h := h.2 (c)
        refine bw_iconst (v := 0) dX12_fitsNoun_46 (by decide) ?_
        refine bw_istore (i := 5) (L' := [some (.ref 50), some (.int l1), some (.int l2), some (.int l3), some (.int l4), some (.int 0)]) dX12_fitsNoun_47 (Nat.le_of_ble_eq_true rfl) rfl ?_
        exact h
theorem wfX12_fitsNoun_49 {E : bw_E} {d : Nat} {w : bw_W} {Q : Bool → bw_W → Prop} {l1 : Int32} {l2 : Int32} {l3 : Int32} {l4 : Int32} {l5 : Int32}  (h : ((2 ≤ l5 → bw_G E (d + 3) mX12_fitsNoun 6 [some (.ref 50), some (.int l1), some (.int l2), some (.int l3), some (.int (l4 + 1)), none] [] w (bw_qb Q)) ∧ (¬ (2 ≤ l5) → (vp_in ((3 * l4) + 2) 96) ∧
(∃ Q2 : Int32 → bw_W → Prop, bw_ri E (d + 2) mX12_defaultOf [.ref 50, .int l3, .int (gw_i w 69 (((3 * l4) + 2).toNatClampNeg)), .int l5] w Q2 ∧ ∀ v3 w4, Q2 v3 w4 →
((v3 ≤ 0 → bw_G E (d + 3) mX12_fitsNoun 49 [some (.ref 50), some (.int l1), some (.int l2), some (.int l3), some (.int l4), some (.int (l5 + 1))] [] w4 (bw_qb Q)) ∧ (¬ (v3 ≤ 0) → Q false w4)))))) : bw_G E (d + 3) mX12_fitsNoun 49 [some (.ref 50), some (.int l1), some (.int l2), some (.int l3), some (.int l4), some (.int l5)] [] w (bw_qb Q) := by
  refine bw_iload dX12_fitsNoun_49 rfl ?_
  refine bw_iconst (v := 2) dX12_fitsNoun_51 (by decide) ?_
  refine bw_icmp_ge (tgt := 84) dX12_fitsNoun_52 (by decide) (fun c => ?_) (fun c => ?_)
  · replace h := h.1 (c)
    refine bw_iinc (i := 4) (x := l4) (v := (l4 + 1)) (L' := [some (.ref 50), some (.int l1), some (.int l2), some (.int l3), some (.int (l4 + 1)), some (.int l5)]) dX12_fitsNoun_84 rfl rfl (Nat.le_of_ble_eq_true rfl) rfl ?_
    refine bw_goto (tgt := 6) dX12_fitsNoun_87 (by decide) ?_
    exact bw_wk [5] rfl h
  · replace h := h.2 (c)
    refine bw_aload_n (i := 0) dX12_fitsNoun_55 rfl rfl ?_
    refine bw_iload_n (i := 3) dX12_fitsNoun_56 rfl rfl ?_
    refine bw_aload_n (i := 0) dX12_fitsNoun_57 rfl rfl ?_
    refine bw_getr (r := 69) fg_BentWordsModel_65 rfl rfl dX12_fitsNoun_58 ?_
    refine bw_iconst (v := 3) dX12_fitsNoun_61 (by decide) ?_
    refine bw_iload dX12_fitsNoun_62 rfl ?_
    refine bw_imul dX12_fitsNoun_64 ?_
    refine bw_iconst (v := 2) dX12_fitsNoun_65 (by decide) ?_
    refine bw_iadd dX12_fitsNoun_66 ?_
    obtain ⟨hi1, h⟩ := h
    refine bw_iaload rfl hi1 dX12_fitsNoun_67 ?_
    refine bw_iload dX12_fitsNoun_68 rfl ?_
    obtain ⟨Q2, hr, h⟩ := h
    refine bw_cVi (As := [.int l3, .int (gw_i w 69 (((3 * l4) + 2).toNatClampNeg)), .int l5]) (st := []) cv_BentWordsModel_300 rfl rfl hr rfl rfl (Nat.le_of_ble_eq_true rfl) dX12_fitsNoun_70 (fun v3 w4 hv => ?_)
    replace h := h v3 w4 hv
    clear hr
    refine bw_if_le (tgt := 78) dX12_fitsNoun_73 (by decide) (fun c => ?_) (fun c => ?_)
    · replace h := h.1 (c)
      refine bw_iinc (i := 5) (x := l5) (v := (l5 + 1)) (L' := [some (.ref 50), some (.int l1), some (.int l2), some (.int l3), some (.int l4), some (.int (l5 + 1))]) dX12_fitsNoun_78 rfl rfl (Nat.le_of_ble_eq_true rfl) rfl ?_
      refine bw_goto (tgt := 49) dX12_fitsNoun_81 (by decide) ?_
      exact h
    · replace h := h.2 (c)
      refine bw_iconst (v := 0) dX12_fitsNoun_76 (by decide) ?_
      exact bw_ireturn dX12_fitsNoun_77 rfl (bw_nb false) ⟨false, rfl, h⟩
theorem wfX12_fitsNoun {E : bw_E} {d : Nat} {w : bw_W} {Q : Bool → bw_W → Prop} {a0 : Int32} {a1 : Int32} {a2 : Int32}  (h : bw_G E (d + 3) mX12_fitsNoun 6 [some (.ref 50), some (.int a0), some (.int a1), some (.int a2), some (.int (8 * a0)), none] [] w (bw_qb Q)) : bw_rb E (d + 3) mX12_fitsNoun [.ref 50, .int a0, .int a1, .int a2] w Q := by
  refine bw_enter rfl (Nat.le_of_ble_eq_true rfl) ?_
  refine bw_bipush (v := 8) dX12_fitsNoun_0 (by decide) ?_
  refine bw_iload_n (i := 1) dX12_fitsNoun_2 rfl rfl ?_
  refine bw_imul dX12_fitsNoun_3 ?_
  refine bw_istore (i := 4) (L' := [some (.ref 50), some (.int a0), some (.int a1), some (.int a2), some (.int (8 * a0)), none]) dX12_fitsNoun_4 (Nat.le_of_ble_eq_true rfl) rfl ?_
  exact h
theorem wfX10_tellableBits_4 {E : bw_E} {d : Nat} {w : bw_W} {Q : Int32 → bw_W → Prop} {l1 : Int32} {l2 : Int32}  (h : (((gw_i w 18 6) ≤ l2 → Q l1 w) ∧ (¬ ((gw_i w 18 6) ≤ l2) → (∃ Q1 : Bool → bw_W → Prop, bw_rb E (d + 3) mX10_canTell [.ref 35, .int l2] w Q1 ∧ ∀ v2 w3, Q1 v2 w3 →
((v2 = false → bw_G E (d + 4) mX10_tellableBits 4 [some (.ref 35), some (.int l1), some (.int (l2 + 1))] [] w3 (bw_qi Q)) ∧ (v2 = true → bw_G E (d + 4) mX10_tellableBits 4 [some (.ref 35), some (.int (l1 ||| ((1 : Int32) <<< (l2 &&& 31)))), some (.int (l2 + 1))] [] w3 (bw_qi Q))))))) : bw_G E (d + 4) mX10_tellableBits 4 [some (.ref 35), some (.int l1), some (.int l2)] [] w (bw_qi Q) := by
  refine bw_iload_n (i := 2) dX10_tellableBits_4 rfl rfl ?_
  refine bw_aload_n (i := 0) dX10_tellableBits_5 rfl rfl ?_
  refine bw_getr (r := 18) fg_BentWords_Teller_9 rfl rfl dX10_tellableBits_6 ?_
  refine bw_geti fg_BentWords_Teller_45 rfl dX10_tellableBits_9 ?_
  refine bw_icmp_ge (tgt := 35) dX10_tellableBits_12 (by decide) (fun c => ?_) (fun c => ?_)
  · replace h := h.1 (c)
    refine bw_iload_n (i := 1) dX10_tellableBits_35 rfl rfl ?_
    exact bw_ireturn dX10_tellableBits_36 rfl rfl ⟨_, rfl, h⟩
  · replace h := h.2 (c)
    refine bw_aload_n (i := 0) dX10_tellableBits_15 rfl rfl ?_
    refine bw_iload_n (i := 2) dX10_tellableBits_16 rfl rfl ?_
    obtain ⟨Q1, hr, h⟩ := h
    refine bw_cVb (As := [.int l2]) (st := []) cv_BentWords_Teller_49 rfl rfl hr rfl rfl (Nat.le_of_ble_eq_true rfl) dX10_tellableBits_17 (fun v2 w3 hv => ?_)
    replace h := h v2 w3 hv
    clear hr
    refine bw_ifb_eq (tgt := 29) dX10_tellableBits_20 (by decide) (fun c => ?_) (fun c => ?_)
    · replace h := h.1 (c)
      refine bw_iinc (i := 2) (x := l2) (v := (l2 + 1)) (L' := [some (.ref 35), some (.int l1), some (.int (l2 + 1))]) dX10_tellableBits_29 rfl rfl (Nat.le_of_ble_eq_true rfl) rfl ?_
      refine bw_goto (tgt := 4) dX10_tellableBits_32 (by decide) ?_
      exact h
    · replace h := h.2 (c)
      refine bw_iload_n (i := 1) dX10_tellableBits_23 rfl rfl ?_
      refine bw_iconst (v := 1) dX10_tellableBits_24 (by decide) ?_
      refine bw_iload_n (i := 2) dX10_tellableBits_25 rfl rfl ?_
      refine bw_ishl dX10_tellableBits_26 ?_
      refine bw_ior dX10_tellableBits_27 ?_
      refine bw_istore_n (i := 1) (L' := [some (.ref 35), some (.int (l1 ||| ((1 : Int32) <<< (l2 &&& 31)))), some (.int l2)]) dX10_tellableBits_28 rfl (Nat.le_of_ble_eq_true rfl) rfl ?_
      refine bw_iinc (i := 2) (x := l2) (v := (l2 + 1)) (L' := [some (.ref 35), some (.int (l1 ||| ((1 : Int32) <<< (l2 &&& 31)))), some (.int (l2 + 1))]) dX10_tellableBits_29 rfl rfl (Nat.le_of_ble_eq_true rfl) rfl ?_
      refine bw_goto (tgt := 4) dX10_tellableBits_32 (by decide) ?_
      exact h
theorem wfX10_tellableBits {E : bw_E} {d : Nat} {w : bw_W} {Q : Int32 → bw_W → Prop}   (h : bw_G E (d + 4) mX10_tellableBits 4 [some (.ref 35), some (.int 0), some (.int 0)] [] w (bw_qi Q)) : bw_ri E (d + 4) mX10_tellableBits [.ref 35] w Q := by
  refine bw_enter rfl (Nat.le_of_ble_eq_true rfl) ?_
  refine bw_iconst (v := 0) dX10_tellableBits_0 (by decide) ?_
  refine bw_istore_n (i := 1) (L' := [some (.ref 35), some (.int 0), none]) dX10_tellableBits_1 rfl (Nat.le_of_ble_eq_true rfl) rfl ?_
  refine bw_iconst (v := 0) dX10_tellableBits_2 (by decide) ?_
  refine bw_istore_n (i := 2) (L' := [some (.ref 35), some (.int 0), some (.int 0)]) dX10_tellableBits_3 rfl (Nat.le_of_ble_eq_true rfl) rfl ?_
  exact h
theorem wfX10_bytesTold_22 {E : bw_E} {d : Nat} {w : bw_W} {Q : Int32 → bw_W → Prop} {l1 : Int32} {l2 : Int32} {l3 : Int32}  (h : (vp_in l1 4) ∧
(((l2 + (gw_i w 25 (l1.toNatClampNeg))) ≤ l3 → Q (gw_i w 35 3) w) ∧ (¬ ((l2 + (gw_i w 25 (l1.toNatClampNeg))) ≤ l3) → (∃ Q2 : bw_W → Prop, bw_rv E (d + 3) mX10_putItem [.ref 35, .int l3] w Q2 ∧ ∀ w4, Q2 w4 →
bw_G E (d + 4) mX10_bytesTold 22 [some (.ref 35), some (.int l1), some (.int l2), some (.int (l3 + 1))] [] w4 (bw_qi Q))))) : bw_G E (d + 4) mX10_bytesTold 22 [some (.ref 35), some (.int l1), some (.int l2), some (.int l3)] [] w (bw_qi Q) := by
  refine bw_iload_n (i := 3) dX10_bytesTold_22 rfl rfl ?_
  refine bw_iload_n (i := 2) dX10_bytesTold_23 rfl rfl ?_
  refine bw_aload_n (i := 0) dX10_bytesTold_24 rfl rfl ?_
  refine bw_getr (r := 18) fg_BentWords_Teller_9 rfl rfl dX10_bytesTold_25 ?_
  refine bw_getr (r := 25) fg_BentWords_Teller_53 rfl rfl dX10_bytesTold_28 ?_
  refine bw_iload_n (i := 1) dX10_bytesTold_31 rfl rfl ?_
  obtain ⟨hi1, h⟩ := h
  refine bw_iaload rfl hi1 dX10_bytesTold_32 ?_
  refine bw_iadd dX10_bytesTold_33 ?_
  refine bw_icmp_ge (tgt := 48) dX10_bytesTold_34 (by decide) (fun c => ?_) (fun c => ?_)
  · replace h := h.1 (c)
    refine bw_aload_n (i := 0) dX10_bytesTold_48 rfl rfl ?_
    refine bw_geti fg_BentWords_Teller_119 rfl dX10_bytesTold_49 ?_
    exact bw_ireturn dX10_bytesTold_52 rfl rfl ⟨_, rfl, h⟩
  · replace h := h.2 (c)
    refine bw_aload_n (i := 0) dX10_bytesTold_37 rfl rfl ?_
    refine bw_iload_n (i := 3) dX10_bytesTold_38 rfl rfl ?_
    obtain ⟨Q2, hr, h⟩ := h
    refine bw_cVv (As := [.int l3]) (st := []) cv_BentWords_Teller_122 rfl rfl hr rfl rfl (Nat.le_of_ble_eq_true rfl) dX10_bytesTold_39 (fun w4 hv => ?_)
    replace h := h w4 hv
    clear hr
    refine bw_iinc (i := 3) (x := l3) (v := (l3 + 1)) (L' := [some (.ref 35), some (.int l1), some (.int l2), some (.int (l3 + 1))]) dX10_bytesTold_42 rfl rfl (Nat.le_of_ble_eq_true rfl) rfl ?_
    refine bw_goto (tgt := 22) dX10_bytesTold_45 (by decide) ?_
    exact h
theorem wfX10_bytesTold {E : bw_E} {d : Nat} {w : bw_W} {Q : Int32 → bw_W → Prop} {a0 : Int32}  (h : (∃ Q1 : Bool → bw_W → Prop, bw_rb E (d + 3) mX10_canTell [.ref 35, .int a0] w Q1 ∧ ∀ v2 w3, Q1 v2 w3 →
((v2 = true → bw_G E (d + 4) mX10_bytesTold 22 [some (.ref 35), some (.int a0), some (.int (a0 * 8)), some (.int (a0 * 8))] [] (sw_i w3 35 3 0) (bw_qi Q)) ∧ (v2 = false → Q (-1) w3)))) : bw_ri E (d + 4) mX10_bytesTold [.ref 35, .int a0] w Q := by
  refine bw_enter rfl (Nat.le_of_ble_eq_true rfl) ?_
  refine bw_aload_n (i := 0) dX10_bytesTold_0 rfl rfl ?_
  refine bw_iload_n (i := 1) dX10_bytesTold_1 rfl rfl ?_
  obtain ⟨Q1, hr, h⟩ := h
  refine bw_cVb (As := [.int a0]) (st := []) cv_BentWords_Teller_49 rfl rfl hr rfl rfl (Nat.le_of_ble_eq_true rfl) dX10_bytesTold_2 (fun v2 w3 hv => ?_)
  replace h := h v2 w3 hv
  clear hr
  refine bw_ifb_ne (tgt := 10) dX10_bytesTold_5 (by decide) (fun c => ?_) (fun c => ?_)
  · replace h := h.1 (c)
    refine bw_aload_n (i := 0) dX10_bytesTold_10 rfl rfl ?_
    refine bw_iconst (v := 0) dX10_bytesTold_11 (by decide) ?_
    refine bw_puti fp_BentWords_Teller_119 rfl rfl rfl dX10_bytesTold_12 ?_
    refine bw_iload_n (i := 1) dX10_bytesTold_15 rfl rfl ?_
    refine bw_bipush (v := 8) dX10_bytesTold_16 (by decide) ?_
    refine bw_imul dX10_bytesTold_18 ?_
    refine bw_istore_n (i := 2) (L' := [some (.ref 35), some (.int a0), some (.int (a0 * 8)), none]) dX10_bytesTold_19 rfl (Nat.le_of_ble_eq_true rfl) rfl ?_
    refine bw_iload_n (i := 2) dX10_bytesTold_20 rfl rfl ?_
    refine bw_istore_n (i := 3) (L' := [some (.ref 35), some (.int a0), some (.int (a0 * 8)), some (.int (a0 * 8))]) dX10_bytesTold_21 rfl (Nat.le_of_ble_eq_true rfl) rfl ?_
    exact h
  · replace h := h.2 (c)
    refine bw_iconst (v := (-1)) dX10_bytesTold_8 (by decide) ?_
    exact bw_ireturn dX10_bytesTold_9 rfl rfl ⟨_, rfl, h⟩
theorem wfX10_tellsAs_13 {E : bw_E} {d : Nat} {w : bw_W} {Q : Bool → bw_W → Prop} {l1 : Int32} {l3 : Int32} {l4 : Int32}  (h : (vp_in l1 4) ∧
(((l3 + (gw_i w 25 (l1.toNatClampNeg))) ≤ l4 → ((¬ (gw_i w 35 3) = (gw_i w 1 1) → Q false w) ∧ ((gw_i w 35 3) = (gw_i w 1 1) → Q true w))) ∧ (¬ ((l3 + (gw_i w 25 (l1.toNatClampNeg))) ≤ l4) → (∃ Q2 : Bool → bw_W → Prop, bw_rb E (d + 3) mX10_canTellItem [.ref 35, .int l4] w Q2 ∧ ∀ v3 w4, Q2 v3 w4 →
((v3 = true → (∃ Q5 : bw_W → Prop, bw_rv E (d + 3) mX10_putItem [.ref 35, .int l4] w4 Q5 ∧ ∀ w7, Q5 w7 →
(∃ Q8 : Bool → bw_W → Prop, bw_rb E (d + 3) mX10_isLineAs [.ref 35, .ref 1, .int (gw_i w4 35 3)] w7 Q8 ∧ ∀ v9 w10, Q8 v9 w10 →
((v9 = true → bw_G E (d + 4) mX10_tellsAs 13 [some (.ref 35), some (.int l1), some (.ref 1), some (.int l3), some (.int (l4 + 1)), none] [] w10 (bw_qb Q)) ∧ (v9 = false → Q false w10))))) ∧ (v3 = false → Q false w4)))))) : bw_G E (d + 4) mX10_tellsAs 13 [some (.ref 35), some (.int l1), some (.ref 1), some (.int l3), some (.int l4), none] [] w (bw_qb Q) := by
  refine bw_iload dX10_tellsAs_13 rfl ?_
  refine bw_iload_n (i := 3) dX10_tellsAs_15 rfl rfl ?_
  refine bw_aload_n (i := 0) dX10_tellsAs_16 rfl rfl ?_
  refine bw_getr (r := 18) fg_BentWords_Teller_9 rfl rfl dX10_tellsAs_17 ?_
  refine bw_getr (r := 25) fg_BentWords_Teller_53 rfl rfl dX10_tellsAs_20 ?_
  refine bw_iload_n (i := 1) dX10_tellsAs_23 rfl rfl ?_
  obtain ⟨hi1, h⟩ := h
  refine bw_iaload rfl hi1 dX10_tellsAs_24 ?_
  refine bw_iadd dX10_tellsAs_25 ?_
  refine bw_icmp_ge (tgt := 70) dX10_tellsAs_26 (by decide) (fun c => ?_) (fun c => ?_)
  · replace h := h.1 (c)
    refine bw_aload_n (i := 0) dX10_tellsAs_70 rfl rfl ?_
    refine bw_geti fg_BentWords_Teller_119 rfl dX10_tellsAs_71 ?_
    refine bw_aload_n (i := 2) dX10_tellsAs_74 rfl rfl ?_
    refine bw_geti fg_BentWords_Teller_130 rfl dX10_tellsAs_75 ?_
    refine bw_icmp_ne (tgt := 85) dX10_tellsAs_78 (by decide) (fun c => ?_) (fun c => ?_)
    · replace h := h.1 (c)
      refine bw_iconst (v := 0) dX10_tellsAs_85 (by decide) ?_
      exact bw_ireturn dX10_tellsAs_86 rfl (bw_nb false) ⟨false, rfl, h⟩
    · replace h := h.2 (c)
      refine bw_iconst (v := 1) dX10_tellsAs_81 (by decide) ?_
      refine bw_goto (tgt := 86) dX10_tellsAs_82 (by decide) ?_
      exact bw_ireturn dX10_tellsAs_86 rfl (bw_nb true) ⟨true, rfl, h⟩
  · replace h := h.2 (c)
    refine bw_aload_n (i := 0) dX10_tellsAs_29 rfl rfl ?_
    refine bw_iload dX10_tellsAs_30 rfl ?_
    obtain ⟨Q2, hr, h⟩ := h
    refine bw_cVb (As := [.int l4]) (st := []) cv_BentWords_Teller_57 rfl rfl hr rfl rfl (Nat.le_of_ble_eq_true rfl) dX10_tellsAs_32 (fun v3 w4 hv => ?_)
    replace h := h v3 w4 hv
    clear hr
    refine bw_ifb_ne (tgt := 40) dX10_tellsAs_35 (by decide) (fun c => ?_) (fun c => ?_)
    · replace h := h.1 (c)
      refine bw_aload_n (i := 0) dX10_tellsAs_40 rfl rfl ?_
      refine bw_geti fg_BentWords_Teller_119 rfl dX10_tellsAs_41 ?_
      refine bw_istore (i := 5) (L' := [some (.ref 35), some (.int l1), some (.ref 1), some (.int l3), some (.int l4), some (.int (gw_i w4 35 3))]) dX10_tellsAs_44 (Nat.le_of_ble_eq_true rfl) rfl ?_
      refine bw_aload_n (i := 0) dX10_tellsAs_46 rfl rfl ?_
      refine bw_iload dX10_tellsAs_47 rfl ?_
      obtain ⟨Q5, hr, h⟩ := h
      refine bw_cVv (As := [.int l4]) (st := []) cv_BentWords_Teller_122 rfl rfl hr rfl rfl (Nat.le_of_ble_eq_true rfl) dX10_tellsAs_49 (fun w7 hv => ?_)
      replace h := h w7 hv
      clear hr
      refine bw_aload_n (i := 0) dX10_tellsAs_52 rfl rfl ?_
      refine bw_aload_n (i := 2) dX10_tellsAs_53 rfl rfl ?_
      refine bw_iload dX10_tellsAs_54 rfl ?_
      obtain ⟨Q8, hr, h⟩ := h
      refine bw_cVb (As := [.ref 1, .int (gw_i w4 35 3)]) (st := []) cv_BentWords_Teller_126 rfl rfl hr rfl rfl (Nat.le_of_ble_eq_true rfl) dX10_tellsAs_56 (fun v9 w10 hv => ?_)
      replace h := h v9 w10 hv
      clear hr
      refine bw_ifb_ne (tgt := 64) dX10_tellsAs_59 (by decide) (fun c => ?_) (fun c => ?_)
      · replace h := h.1 (c)
        refine bw_iinc (i := 4) (x := l4) (v := (l4 + 1)) (L' := [some (.ref 35), some (.int l1), some (.ref 1), some (.int l3), some (.int (l4 + 1)), some (.int (gw_i w4 35 3))]) dX10_tellsAs_64 rfl rfl (Nat.le_of_ble_eq_true rfl) rfl ?_
        refine bw_goto (tgt := 13) dX10_tellsAs_67 (by decide) ?_
        exact bw_wk [5] rfl h
      · replace h := h.2 (c)
        refine bw_iconst (v := 0) dX10_tellsAs_62 (by decide) ?_
        exact bw_ireturn dX10_tellsAs_63 rfl (bw_nb false) ⟨false, rfl, h⟩
    · replace h := h.2 (c)
      refine bw_iconst (v := 0) dX10_tellsAs_38 (by decide) ?_
      exact bw_ireturn dX10_tellsAs_39 rfl (bw_nb false) ⟨false, rfl, h⟩
theorem wfX10_tellsAs {E : bw_E} {d : Nat} {w : bw_W} {Q : Bool → bw_W → Prop} {a0 : Int32}  (h : bw_G E (d + 4) mX10_tellsAs 13 [some (.ref 35), some (.int a0), some (.ref 1), some (.int (a0 * 8)), some (.int (a0 * 8)), none] [] (sw_i w 35 3 0) (bw_qb Q)) : bw_rb E (d + 4) mX10_tellsAs [.ref 35, .int a0, .ref 1] w Q := by
  refine bw_enter rfl (Nat.le_of_ble_eq_true rfl) ?_
  refine bw_aload_n (i := 0) dX10_tellsAs_0 rfl rfl ?_
  refine bw_iconst (v := 0) dX10_tellsAs_1 (by decide) ?_
  refine bw_puti fp_BentWords_Teller_119 rfl rfl rfl dX10_tellsAs_2 ?_
  refine bw_iload_n (i := 1) dX10_tellsAs_5 rfl rfl ?_
  refine bw_bipush (v := 8) dX10_tellsAs_6 (by decide) ?_
  refine bw_imul dX10_tellsAs_8 ?_
  refine bw_istore_n (i := 3) (L' := [some (.ref 35), some (.int a0), some (.ref 1), some (.int (a0 * 8)), none, none]) dX10_tellsAs_9 rfl (Nat.le_of_ble_eq_true rfl) rfl ?_
  refine bw_iload_n (i := 3) dX10_tellsAs_10 rfl rfl ?_
  refine bw_istore (i := 4) (L' := [some (.ref 35), some (.int a0), some (.ref 1), some (.int (a0 * 8)), some (.int (a0 * 8)), none]) dX10_tellsAs_11 (Nat.le_of_ble_eq_true rfl) rfl ?_
  exact h
