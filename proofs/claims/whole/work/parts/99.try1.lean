theorem wfX0_nextSign {E : bw_E} {d : Nat} {w : bw_W} {Q : Int32 → bw_W → Prop}   (h : (∃ Q1 : bw_W → Prop, bw_rv E (d + 0) mX0_skipBlanks [.ref 3] w Q1 ∧ ∀ w3, Q1 w3 →
(((gw_i w3 1 1) ≤ (gw_i w3 3 1) → Q 0 w3) ∧ (¬ ((gw_i w3 1 1) ≤ (gw_i w3 3 1)) → (vp_in (gw_i w3 3 1) 480) ∧
(narrow .char (.int (gw_i w3 2 ((gw_i w3 3 1).toNatClampNeg))) = .int (gw_i w3 2 ((gw_i w3 3 1).toNatClampNeg))) ∧
Q (gw_i w3 2 ((gw_i w3 3 1).toNatClampNeg)) w3)))) : bw_ri E (d + 1) mX0_nextSign [.ref 3] w Q := by
  refine bw_enter rfl (Nat.le_of_ble_eq_true rfl) ?_
  refine bw_aload_n (i := 0) dX0_nextSign_0 rfl rfl ?_
  obtain ⟨Q1, hr, h⟩ := h
  refine bw_cVv (As := []) (st := []) cv_BentWords_Cursor_31 rfl rfl hr rfl rfl (Nat.le_of_ble_eq_true rfl) dX0_nextSign_1 (fun w3 hv => ?_)
  replace h := h w3 hv
  clear hr
  refine bw_aload_n (i := 0) dX0_nextSign_4 rfl rfl ?_
  refine bw_geti fg_BentWords_Cursor_15 rfl dX0_nextSign_5 ?_
  refine bw_aload_n (i := 0) dX0_nextSign_8 rfl rfl ?_
  refine bw_getr (r := 1) fg_BentWords_Cursor_9 rfl rfl dX0_nextSign_9 ?_
  refine bw_geti fg_BentWords_Cursor_22 rfl dX0_nextSign_12 ?_
  refine bw_icmp_ge (tgt := 33) dX0_nextSign_15 (by decide) (fun c => ?_) (fun c => ?_)
  · replace h := h.1 (c)
    refine bw_iconst (v := 0) dX0_nextSign_33 (by decide) ?_
    exact bw_ireturn dX0_nextSign_34 rfl rfl ⟨_, rfl, h⟩
  · replace h := h.2 (c)
    refine bw_aload_n (i := 0) dX0_nextSign_18 rfl rfl ?_
    refine bw_getr (r := 1) fg_BentWords_Cursor_9 rfl rfl dX0_nextSign_19 ?_
    refine bw_getr (r := 2) fg_BentWords_Cursor_27 rfl rfl dX0_nextSign_22 ?_
    refine bw_aload_n (i := 0) dX0_nextSign_25 rfl rfl ?_
    refine bw_geti fg_BentWords_Cursor_15 rfl dX0_nextSign_26 ?_
    obtain ⟨hi4, h⟩ := h
    refine bw_caload rfl hi4 dX0_nextSign_29 ?_
    refine bw_goto (tgt := 34) dX0_nextSign_30 (by decide) ?_
    obtain ⟨hn5, h⟩ := h
    exact bw_ireturn dX0_nextSign_34 rfl hn5 ⟨_, rfl, h⟩
theorem wfX0_takeWord_17 {E : bw_E} {d : Nat} {w : bw_W} {Q : Bool → bw_W → Prop}   (h : (((gw_i w 1 1) ≤ (gw_i w 3 1) → (((gw_i w 3 1) ≤ (gw_i w 3 2) → (∃ Q1 : Bool → bw_W → Prop, bw_rb E (d + 0) mX0_fail [.ref 3, .int (gw_i w 3 2)] w Q1 ∧ ∀ v2 w3, Q1 v2 w3 →
((v2 = false → Q false w3) ∧ (v2 = true → Q true w3)))) ∧ (¬ ((gw_i w 3 1) ≤ (gw_i w 3 2)) → ((((gw_i w 3 1) - (gw_i w 3 2)) ≤ 8 → Q true w) ∧ (¬ (((gw_i w 3 1) - (gw_i w 3 2)) ≤ 8) → (∃ Q4 : Bool → bw_W → Prop, bw_rb E (d + 0) mX0_fail [.ref 3, .int (gw_i w 3 2)] w Q4 ∧ ∀ v5 w6, Q4 v5 w6 →
((v5 = false → Q false w6) ∧ (v5 = true → Q true w6)))))))) ∧ (¬ ((gw_i w 1 1) ≤ (gw_i w 3 1)) → (vp_in (gw_i w 3 1) 480) ∧
(((gw_i w 2 ((gw_i w 3 1).toNatClampNeg)) < 97 → (((gw_i w 3 1) ≤ (gw_i w 3 2) → (∃ Q8 : Bool → bw_W → Prop, bw_rb E (d + 0) mX0_fail [.ref 3, .int (gw_i w 3 2)] w Q8 ∧ ∀ v9 w10, Q8 v9 w10 →
((v9 = false → Q false w10) ∧ (v9 = true → Q true w10)))) ∧ (¬ ((gw_i w 3 1) ≤ (gw_i w 3 2)) → ((((gw_i w 3 1) - (gw_i w 3 2)) ≤ 8 → Q true w) ∧ (¬ (((gw_i w 3 1) - (gw_i w 3 2)) ≤ 8) → (∃ Q11 : Bool → bw_W → Prop, bw_rb E (d + 0) mX0_fail [.ref 3, .int (gw_i w 3 2)] w Q11 ∧ ∀ v12 w13, Q11 v12 w13 →
((v12 = false → Q false w13) ∧ (v12 = true → Q true w13)))))))) ∧ (¬ ((gw_i w 2 ((gw_i w 3 1).toNatClampNeg)) < 97) → (vp_in (gw_i w 3 1) 480) ∧
((122 < (gw_i w 2 ((gw_i w 3 1).toNatClampNeg)) → (((gw_i w 3 1) ≤ (gw_i w 3 2) → (∃ Q15 : Bool → bw_W → Prop, bw_rb E (d + 0) mX0_fail [.ref 3, .int (gw_i w 3 2)] w Q15 ∧ ∀ v16 w17, Q15 v16 w17 →
((v16 = false → Q false w17) ∧ (v16 = true → Q true w17)))) ∧ (¬ ((gw_i w 3 1) ≤ (gw_i w 3 2)) → ((((gw_i w 3 1) - (gw_i w 3 2)) ≤ 8 → Q true w) ∧ (¬ (((gw_i w 3 1) - (gw_i w 3 2)) ≤ 8) → (∃ Q18 : Bool → bw_W → Prop, bw_rb E (d + 0) mX0_fail [.ref 3, .int (gw_i w 3 2)] w Q18 ∧ ∀ v19 w20, Q18 v19 w20 →
((v19 = false → Q false w20) ∧ (v19 = true → Q true w20)))))))) ∧ (¬ (122 < (gw_i w 2 ((gw_i w 3 1).toNatClampNeg))) → ((8 ≤ ((gw_i w 3 1) - (gw_i w 3 2)) → bw_G E (d + 1) mX0_takeWord 17 [some (.ref 3), none] [] (sw_i w 3 1 ((gw_i w 3 1) + 1)) (bw_qb Q)) ∧ (¬ (8 ≤ ((gw_i w 3 1) - (gw_i w 3 2))) → (vp_in (gw_i w 3 1) 480) ∧
bw_G E (d + 1) mX0_takeWord 17 [some (.ref 3), none] [] (sw_i (sw_l w 3 5 ((gw_l w 3 5) ||| (((gw_i w 2 ((gw_i w 3 1).toNatClampNeg)).toInt64) <<< ((8 * ((gw_i w 3 1) - (gw_i w 3 2))).toInt64 &&& 63)))) 3 1 ((gw_i w 3 1) + 1)) (bw_qb Q)))))))))) : bw_G E (d + 1) mX0_takeWord 17 [some (.ref 3), none] [] w (bw_qb Q) := by
  refine bw_aload_n (i := 0) dX0_takeWord_17 rfl rfl ?_
  refine bw_geti fg_BentWords_Cursor_15 rfl dX0_takeWord_18 ?_
  refine bw_aload_n (i := 0) dX0_takeWord_21 rfl rfl ?_
  refine bw_getr (r := 1) fg_BentWords_Cursor_9 rfl rfl dX0_takeWord_22 ?_
  refine bw_geti fg_BentWords_Cursor_22 rfl dX0_takeWord_25 ?_
  refine bw_icmp_ge (tgt := 121) dX0_takeWord_28 (by decide) (fun c => ?_) (fun c => ?_)
  · replace h := h.1 (c)
    refine bw_aload_n (i := 0) dX0_takeWord_121 rfl rfl ?_
    refine bw_geti fg_BentWords_Cursor_15 rfl dX0_takeWord_122 ?_
    refine bw_aload_n (i := 0) dX0_takeWord_125 rfl rfl ?_
    refine bw_geti fg_BentWords_Cursor_34 rfl dX0_takeWord_126 ?_
    refine bw_icmp_le (tgt := 146) dX0_takeWord_129 (by decide) (fun c => ?_) (fun c => ?_)
    · replace h := h.1 (c)
      refine bw_aload_n (i := 0) dX0_takeWord_146 rfl rfl ?_
      refine bw_aload_n (i := 0) dX0_takeWord_147 rfl rfl ?_
      refine bw_geti fg_BentWords_Cursor_34 rfl dX0_takeWord_148 ?_
      obtain ⟨Q1, hr, h⟩ := h
      refine bw_cVb (As := [.int (gw_i w 3 2)]) (st := []) cv_BentWords_Cursor_41 rfl rfl hr rfl rfl (Nat.le_of_ble_eq_true rfl) dX0_takeWord_151 (fun v2 w3 hv => ?_)
      replace h := h v2 w3 hv
      clear hr
      refine bw_ifb_eq (tgt := 161) dX0_takeWord_154 (by decide) (fun c => ?_) (fun c => ?_)
      · replace h := h.1 (c)
        refine bw_iconst (v := 0) dX0_takeWord_161 (by decide) ?_
        exact bw_ireturn dX0_takeWord_162 rfl (bw_nb false) ⟨false, rfl, h⟩
      · replace h := h.2 (c)
        refine bw_iconst (v := 1) dX0_takeWord_157 (by decide) ?_
        refine bw_goto (tgt := 162) dX0_takeWord_158 (by decide) ?_
        exact bw_ireturn dX0_takeWord_162 rfl (bw_nb true) ⟨true, rfl, h⟩
    · replace h := h.2 (c)
      refine bw_aload_n (i := 0) dX0_takeWord_132 rfl rfl ?_
      refine bw_geti fg_BentWords_Cursor_15 rfl dX0_takeWord_133 ?_
      refine bw_aload_n (i := 0) dX0_takeWord_136 rfl rfl ?_
      refine bw_geti fg_BentWords_Cursor_34 rfl dX0_takeWord_137 ?_
      refine bw_isub dX0_takeWord_140 ?_
      refine bw_bipush (v := 8) dX0_takeWord_141 (by decide) ?_
      refine bw_icmp_le (tgt := 157) dX0_takeWord_143 (by decide) (fun c => ?_) (fun c => ?_)
      · replace h := h.1 (c)
        refine bw_iconst (v := 1) dX0_takeWord_157 (by decide) ?_
        refine bw_goto (tgt := 162) dX0_takeWord_158 (by decide) ?_
        exact bw_ireturn dX0_takeWord_162 rfl (bw_nb true) ⟨true, rfl, h⟩
      · replace h := h.2 (c)
        refine bw_aload_n (i := 0) dX0_takeWord_146 rfl rfl ?_
        refine bw_aload_n (i := 0) dX0_takeWord_147 rfl rfl ?_
        refine bw_geti fg_BentWords_Cursor_34 rfl dX0_takeWord_148 ?_
        obtain ⟨Q4, hr, h⟩ := h
        refine bw_cVb (As := [.int (gw_i w 3 2)]) (st := []) cv_BentWords_Cursor_41 rfl rfl hr rfl rfl (Nat.le_of_ble_eq_true rfl) dX0_takeWord_151 (fun v5 w6 hv => ?_)
        replace h := h v5 w6 hv
        clear hr
        refine bw_ifb_eq (tgt := 161) dX0_takeWord_154 (by decide) (fun c => ?_) (fun c => ?_)
        · replace h := h.1 (c)
          refine bw_iconst (v := 0) dX0_takeWord_161 (by decide) ?_
          exact bw_ireturn dX0_takeWord_162 rfl (bw_nb false) ⟨false, rfl, h⟩
        · replace h := h.2 (c)
          refine bw_iconst (v := 1) dX0_takeWord_157 (by decide) ?_
          refine bw_goto (tgt := 162) dX0_takeWord_158 (by decide) ?_
          exact bw_ireturn dX0_takeWord_162 rfl (bw_nb true) ⟨true, rfl, h⟩
  · replace h := h.2 (c)
    refine bw_aload_n (i := 0) dX0_takeWord_31 rfl rfl ?_
    refine bw_getr (r := 1) fg_BentWords_Cursor_9 rfl rfl dX0_takeWord_32 ?_
    refine bw_getr (r := 2) fg_BentWords_Cursor_27 rfl rfl dX0_takeWord_35 ?_
    refine bw_aload_n (i := 0) dX0_takeWord_38 rfl rfl ?_
    refine bw_geti fg_BentWords_Cursor_15 rfl dX0_takeWord_39 ?_
    obtain ⟨hi7, h⟩ := h
    refine bw_caload rfl hi7 dX0_takeWord_42 ?_
    refine bw_bipush (v := 97) dX0_takeWord_43 (by decide) ?_
    refine bw_icmp_lt (tgt := 121) dX0_takeWord_45 (by decide) (fun c => ?_) (fun c => ?_)
    · replace h := h.1 (c)
      refine bw_aload_n (i := 0) dX0_takeWord_121 rfl rfl ?_
      refine bw_geti fg_BentWords_Cursor_15 rfl dX0_takeWord_122 ?_
      refine bw_aload_n (i := 0) dX0_takeWord_125 rfl rfl ?_
      refine bw_geti fg_BentWords_Cursor_34 rfl dX0_takeWord_126 ?_
      refine bw_icmp_le (tgt := 146) dX0_takeWord_129 (by decide) (fun c => ?_) (fun c => ?_)
      · replace h := h.1 (c)
        refine bw_aload_n (i := 0) dX0_takeWord_146 rfl rfl ?_
        refine bw_aload_n (i := 0) dX0_takeWord_147 rfl rfl ?_
        refine bw_geti fg_BentWords_Cursor_34 rfl dX0_takeWord_148 ?_
        obtain ⟨Q8, hr, h⟩ := h
        refine bw_cVb (As := [.int (gw_i w 3 2)]) (st := []) cv_BentWords_Cursor_41 rfl rfl hr rfl rfl (Nat.le_of_ble_eq_true rfl) dX0_takeWord_151 (fun v9 w10 hv => ?_)
        replace h := h v9 w10 hv
        clear hr
        refine bw_ifb_eq (tgt := 161) dX0_takeWord_154 (by decide) (fun c => ?_) (fun c => ?_)
        · replace h := h.1 (c)
          refine bw_iconst (v := 0) dX0_takeWord_161 (by decide) ?_
          exact bw_ireturn dX0_takeWord_162 rfl (bw_nb false) ⟨false, rfl, h⟩
        · replace h := h.2 (c)
          refine bw_iconst (v := 1) dX0_takeWord_157 (by decide) ?_
          refine bw_goto (tgt := 162) dX0_takeWord_158 (by decide) ?_
          exact bw_ireturn dX0_takeWord_162 rfl (bw_nb true) ⟨true, rfl, h⟩
      · replace h := h.2 (c)
        refine bw_aload_n (i := 0) dX0_takeWord_132 rfl rfl ?_
        refine bw_geti fg_BentWords_Cursor_15 rfl dX0_takeWord_133 ?_
        refine bw_aload_n (i := 0) dX0_takeWord_136 rfl rfl ?_
        refine bw_geti fg_BentWords_Cursor_34 rfl dX0_takeWord_137 ?_
        refine bw_isub dX0_takeWord_140 ?_
        refine bw_bipush (v := 8) dX0_takeWord_141 (by decide) ?_
        refine bw_icmp_le (tgt := 157) dX0_takeWord_143 (by decide) (fun c => ?_) (fun c => ?_)
        · replace h := h.1 (c)
          refine bw_iconst (v := 1) dX0_takeWord_157 (by decide) ?_
          refine bw_goto (tgt := 162) dX0_takeWord_158 (by decide) ?_
          exact bw_ireturn dX0_takeWord_162 rfl (bw_nb true) ⟨true, rfl, h⟩
        · replace h := h.2 (c)
          refine bw_aload_n (i := 0) dX0_takeWord_146 rfl rfl ?_
          refine bw_aload_n (i := 0) dX0_takeWord_147 rfl rfl ?_
          refine bw_geti fg_BentWords_Cursor_34 rfl dX0_takeWord_148 ?_
          obtain ⟨Q11, hr, h⟩ := h
          refine bw_cVb (As := [.int (gw_i w 3 2)]) (st := []) cv_BentWords_Cursor_41 rfl rfl hr rfl rfl (Nat.le_of_ble_eq_true rfl) dX0_takeWord_151 (fun v12 w13 hv => ?_)
          replace h := h v12 w13 hv
          clear hr
          refine bw_ifb_eq (tgt := 161) dX0_takeWord_154 (by decide) (fun c => ?_) (fun c => ?_)
          · replace h := h.1 (c)
            refine bw_iconst (v := 0) dX0_takeWord_161 (by decide) ?_
            exact bw_ireturn dX0_takeWord_162 rfl (bw_nb false) ⟨false, rfl, h⟩
          · replace h := h.2 (c)
            refine bw_iconst (v := 1) dX0_takeWord_157 (by decide) ?_
            refine bw_goto (tgt := 162) dX0_takeWord_158 (by decide) ?_
            exact bw_ireturn dX0_takeWord_162 rfl (bw_nb true) ⟨true, rfl, h⟩
    · replace h := h.2 (c)
      refine bw_aload_n (i := 0) dX0_takeWord_48 rfl rfl ?_
      refine bw_getr (r := 1) fg_BentWords_Cursor_9 rfl rfl dX0_takeWord_49 ?_
      refine bw_getr (r := 2) fg_BentWords_Cursor_27 rfl rfl dX0_takeWord_52 ?_
      refine bw_aload_n (i := 0) dX0_takeWord_55 rfl rfl ?_
      refine bw_geti fg_BentWords_Cursor_15 rfl dX0_takeWord_56 ?_
      obtain ⟨hi14, h⟩ := h
      refine bw_caload rfl hi14 dX0_takeWord_59 ?_
      refine bw_bipush (v := 122) dX0_takeWord_60 (by decide) ?_
      refine bw_icmp_gt (tgt := 121) dX0_takeWord_62 (by decide) (fun c => ?_) (fun c => ?_)
      · replace h := h.1 (c)
        refine bw_aload_n (i := 0) dX0_takeWord_121 rfl rfl ?_
        refine bw_geti fg_BentWords_Cursor_15 rfl dX0_takeWord_122 ?_
        refine bw_aload_n (i := 0) dX0_takeWord_125 rfl rfl ?_
        refine bw_geti fg_BentWords_Cursor_34 rfl dX0_takeWord_126 ?_
        refine bw_icmp_le (tgt := 146) dX0_takeWord_129 (by decide) (fun c => ?_) (fun c => ?_)
        · replace h := h.1 (c)
          refine bw_aload_n (i := 0) dX0_takeWord_146 rfl rfl ?_
          refine bw_aload_n (i := 0) dX0_takeWord_147 rfl rfl ?_
          refine bw_geti fg_BentWords_Cursor_34 rfl dX0_takeWord_148 ?_
          obtain ⟨Q15, hr, h⟩ := h
          refine bw_cVb (As := [.int (gw_i w 3 2)]) (st := []) cv_BentWords_Cursor_41 rfl rfl hr rfl rfl (Nat.le_of_ble_eq_true rfl) dX0_takeWord_151 (fun v16 w17 hv => ?_)
          replace h := h v16 w17 hv
          clear hr
          refine bw_ifb_eq (tgt := 161) dX0_takeWord_154 (by decide) (fun c => ?_) (fun c => ?_)
          · replace h := h.1 (c)
            refine bw_iconst (v := 0) dX0_takeWord_161 (by decide) ?_
            exact bw_ireturn dX0_takeWord_162 rfl (bw_nb false) ⟨false, rfl, h⟩
          · replace h := h.2 (c)
            refine bw_iconst (v := 1) dX0_takeWord_157 (by decide) ?_
            refine bw_goto (tgt := 162) dX0_takeWord_158 (by decide) ?_
            exact bw_ireturn dX0_takeWord_162 rfl (bw_nb true) ⟨true, rfl, h⟩
        · replace h := h.2 (c)
          refine bw_aload_n (i := 0) dX0_takeWord_132 rfl rfl ?_
          refine bw_geti fg_BentWords_Cursor_15 rfl dX0_takeWord_133 ?_
          refine bw_aload_n (i := 0) dX0_takeWord_136 rfl rfl ?_
          refine bw_geti fg_BentWords_Cursor_34 rfl dX0_takeWord_137 ?_
          refine bw_isub dX0_takeWord_140 ?_
          refine bw_bipush (v := 8) dX0_takeWord_141 (by decide) ?_
          refine bw_icmp_le (tgt := 157) dX0_takeWord_143 (by decide) (fun c => ?_) (fun c => ?_)
          · replace h := h.1 (c)
            refine bw_iconst (v := 1) dX0_takeWord_157 (by decide) ?_
            refine bw_goto (tgt := 162) dX0_takeWord_158 (by decide) ?_
            exact bw_ireturn dX0_takeWord_162 rfl (bw_nb true) ⟨true, rfl, h⟩
          · replace h := h.2 (c)
            refine bw_aload_n (i := 0) dX0_takeWord_146 rfl rfl ?_
            refine bw_aload_n (i := 0) dX0_takeWord_147 rfl rfl ?_
            refine bw_geti fg_BentWords_Cursor_34 rfl dX0_takeWord_148 ?_
            obtain ⟨Q18, hr, h⟩ := h
            refine bw_cVb (As := [.int (gw_i w 3 2)]) (st := []) cv_BentWords_Cursor_41 rfl rfl hr rfl rfl (Nat.le_of_ble_eq_true rfl) dX0_takeWord_151 (fun v19 w20 hv => ?_)
            replace h := h v19 w20 hv
            clear hr
            refine bw_ifb_eq (tgt := 161) dX0_takeWord_154 (by decide) (fun c => ?_) (fun c => ?_)
            · replace h := h.1 (c)
              refine bw_iconst (v := 0) dX0_takeWord_161 (by decide) ?_
              exact bw_ireturn dX0_takeWord_162 rfl (bw_nb false) ⟨false, rfl, h⟩
            · replace h := h.2 (c)
              refine bw_iconst (v := 1) dX0_takeWord_157 (by decide) ?_
              refine bw_goto (tgt := 162) dX0_takeWord_158 (by decide) ?_
              exact bw_ireturn dX0_takeWord_162 rfl (bw_nb true) ⟨true, rfl, h⟩
      · replace h := h.2 (c)
        refine bw_aload_n (i := 0) dX0_takeWord_65 rfl rfl ?_
        refine bw_geti fg_BentWords_Cursor_15 rfl dX0_takeWord_66 ?_
        refine bw_aload_n (i := 0) dX0_takeWord_69 rfl rfl ?_
        refine bw_geti fg_BentWords_Cursor_34 rfl dX0_takeWord_70 ?_
        refine bw_isub dX0_takeWord_73 ?_
        refine bw_istore_n (i := 1) (L' := [some (.ref 3), some (.int ((gw_i w 3 1) - (gw_i w 3 2)))]) dX0_takeWord_74 rfl (Nat.le_of_ble_eq_true rfl) rfl ?_
        refine bw_iload_n (i := 1) dX0_takeWord_75 rfl rfl ?_
        refine bw_bipush (v := 8) dX0_takeWord_76 (by decide) ?_
        refine bw_icmp_ge (tgt := 108) dX0_takeWord_78 (by decide) (fun c => ?_) (fun c => ?_)
        · replace h := h.1 (c)
          refine bw_aload_n (i := 0) dX0_takeWord_108 rfl rfl ?_
          refine bw_dup dX0_takeWord_109 rfl ?_
          refine bw_geti fg_BentWords_Cursor_15 rfl dX0_takeWord_110 ?_
          refine bw_iconst (v := 1) dX0_takeWord_113 (by decide) ?_
          refine bw_iadd dX0_takeWord_114 ?_
          refine bw_puti fp_BentWords_Cursor_15 rfl rfl rfl dX0_takeWord_115 ?_
          refine bw_goto (tgt := 17) dX0_takeWord_118 (by decide) ?_
          exact bw_wk [1] rfl h
        · replace h := h.2 (c)
          refine bw_aload_n (i := 0) dX0_takeWord_81 rfl rfl ?_
          refine bw_dup dX0_takeWord_82 rfl ?_
          refine bw_getl fg_BentWords_Cursor_37 rfl dX0_takeWord_83 ?_
          refine bw_aload_n (i := 0) dX0_takeWord_86 rfl rfl ?_
          refine bw_getr (r := 1) fg_BentWords_Cursor_9 rfl rfl dX0_takeWord_87 ?_
          refine bw_getr (r := 2) fg_BentWords_Cursor_27 rfl rfl dX0_takeWord_90 ?_
          refine bw_aload_n (i := 0) dX0_takeWord_93 rfl rfl ?_
          refine bw_geti fg_BentWords_Cursor_15 rfl dX0_takeWord_94 ?_
          obtain ⟨hi21, h⟩ := h
          refine bw_caload rfl hi21 dX0_takeWord_97 ?_
          refine bw_i2l dX0_takeWord_98 ?_
          refine bw_bipush (v := 8) dX0_takeWord_99 (by decide) ?_
          refine bw_iload_n (i := 1) dX0_takeWord_101 rfl rfl ?_
          refine bw_imul dX0_takeWord_102 ?_
          refine bw_lshl dX0_takeWord_103 ?_
          refine bw_lor dX0_takeWord_104 ?_
          refine bw_putl fp_BentWords_Cursor_37 rfl dX0_takeWord_105 ?_
          refine bw_aload_n (i := 0) dX0_takeWord_108 rfl rfl ?_
          refine bw_dup dX0_takeWord_109 rfl ?_
          refine bw_geti fg_BentWords_Cursor_15 rfl dX0_takeWord_110 ?_
          rw [show gw_i (sw_l w 3 5 ((gw_l w 3 5) ||| (((gw_i w 2 ((gw_i w 3 1).toNatClampNeg)).toInt64) <<< ((8 * ((gw_i w 3 1) - (gw_i w 3 2))).toInt64 &&& 63)))) 3 1 = (gw_i w 3 1) from rfl]
          refine bw_iconst (v := 1) dX0_takeWord_113 (by decide) ?_
          refine bw_iadd dX0_takeWord_114 ?_
          refine bw_puti fp_BentWords_Cursor_15 rfl rfl rfl dX0_takeWord_115 ?_
          refine bw_goto (tgt := 17) dX0_takeWord_118 (by decide) ?_
          exact bw_wk [1] rfl h
theorem wfX0_takeWord {E : bw_E} {d : Nat} {w : bw_W} {Q : Bool → bw_W → Prop}   (h : (∃ Q1 : bw_W → Prop, bw_rv E (d + 0) mX0_skipBlanks [.ref 3] w Q1 ∧ ∀ w3, Q1 w3 →
bw_G E (d + 1) mX0_takeWord 17 [some (.ref 3), none] [] (sw_l (sw_i w3 3 2 (gw_i w3 3 1)) 3 5 0) (bw_qb Q))) : bw_rb E (d + 1) mX0_takeWord [.ref 3] w Q := by
  refine bw_enter rfl (Nat.le_of_ble_eq_true rfl) ?_
  refine bw_aload_n (i := 0) dX0_takeWord_0 rfl rfl ?_
  obtain ⟨Q1, hr, h⟩ := h
  refine bw_cVv (As := []) (st := []) cv_BentWords_Cursor_31 rfl rfl hr rfl rfl (Nat.le_of_ble_eq_true rfl) dX0_takeWord_1 (fun w3 hv => ?_)
  replace h := h w3 hv
  clear hr
  refine bw_aload_n (i := 0) dX0_takeWord_4 rfl rfl ?_
  refine bw_aload_n (i := 0) dX0_takeWord_5 rfl rfl ?_
  refine bw_geti fg_BentWords_Cursor_15 rfl dX0_takeWord_6 ?_
  refine bw_puti fp_BentWords_Cursor_34 rfl rfl rfl dX0_takeWord_9 ?_
  refine bw_aload_n (i := 0) dX0_takeWord_12 rfl rfl ?_
  refine bw_lconst (v := 0) dX0_takeWord_13 rfl ?_
  refine bw_putl fp_BentWords_Cursor_37 rfl dX0_takeWord_14 ?_
  exact h
theorem wfX0_takeNumber_17 {E : bw_E} {d : Nat} {w : bw_W} {Q : Bool → bw_W → Prop} {l1 : Int32} {l2 : Int32}  (h : (((gw_i w 1 1) ≤ (gw_i w 3 1) → (((gw_i w 3 1) ≤ (gw_i w 3 2) → (∃ Q1 : Bool → bw_W → Prop, bw_rb E (d + 0) mX0_fail [.ref 3, .int (gw_i w 3 2)] w Q1 ∧ ∀ v2 w3, Q1 v2 w3 →
((v2 = false → Q false w3) ∧ (v2 = true → Q true w3)))) ∧ (¬ ((gw_i w 3 1) ≤ (gw_i w 3 2)) → ((l1 < ((gw_i w 3 1) - (gw_i w 3 2)) → (∃ Q4 : Bool → bw_W → Prop, bw_rb E (d + 0) mX0_fail [.ref 3, .int (gw_i w 3 2)] w Q4 ∧ ∀ v5 w6, Q4 v5 w6 →
((v5 = false → Q false w6) ∧ (v5 = true → Q true w6)))) ∧ (¬ (l1 < ((gw_i w 3 1) - (gw_i w 3 2))) → ((l2 < (gw_i w 3 4) → (∃ Q7 : Bool → bw_W → Prop, bw_rb E (d + 0) mX0_fail [.ref 3, .int (gw_i w 3 2)] w Q7 ∧ ∀ v8 w9, Q7 v8 w9 →
((v8 = false → Q false w9) ∧ (v8 = true → Q true w9)))) ∧ (¬ (l2 < (gw_i w 3 4)) → Q true w))))))) ∧ (¬ ((gw_i w 1 1) ≤ (gw_i w 3 1)) → (vp_in (gw_i w 3 1) 480) ∧
(((gw_i w 2 ((gw_i w 3 1).toNatClampNeg)) < 48 → (((gw_i w 3 1) ≤ (gw_i w 3 2) → (∃ Q11 : Bool → bw_W → Prop, bw_rb E (d + 0) mX0_fail [.ref 3, .int (gw_i w 3 2)] w Q11 ∧ ∀ v12 w13, Q11 v12 w13 →
((v12 = false → Q false w13) ∧ (v12 = true → Q true w13)))) ∧ (¬ ((gw_i w 3 1) ≤ (gw_i w 3 2)) → ((l1 < ((gw_i w 3 1) - (gw_i w 3 2)) → (∃ Q14 : Bool → bw_W → Prop, bw_rb E (d + 0) mX0_fail [.ref 3, .int (gw_i w 3 2)] w Q14 ∧ ∀ v15 w16, Q14 v15 w16 →
((v15 = false → Q false w16) ∧ (v15 = true → Q true w16)))) ∧ (¬ (l1 < ((gw_i w 3 1) - (gw_i w 3 2))) → ((l2 < (gw_i w 3 4) → (∃ Q17 : Bool → bw_W → Prop, bw_rb E (d + 0) mX0_fail [.ref 3, .int (gw_i w 3 2)] w Q17 ∧ ∀ v18 w19, Q17 v18 w19 →
((v18 = false → Q false w19) ∧ (v18 = true → Q true w19)))) ∧ (¬ (l2 < (gw_i w 3 4)) → Q true w))))))) ∧ (¬ ((gw_i w 2 ((gw_i w 3 1).toNatClampNeg)) < 48) → (vp_in (gw_i w 3 1) 480) ∧
((57 < (gw_i w 2 ((gw_i w 3 1).toNatClampNeg)) → (((gw_i w 3 1) ≤ (gw_i w 3 2) → (∃ Q21 : Bool → bw_W → Prop, bw_rb E (d + 0) mX0_fail [.ref 3, .int (gw_i w 3 2)] w Q21 ∧ ∀ v22 w23, Q21 v22 w23 →
((v22 = false → Q false w23) ∧ (v22 = true → Q true w23)))) ∧ (¬ ((gw_i w 3 1) ≤ (gw_i w 3 2)) → ((l1 < ((gw_i w 3 1) - (gw_i w 3 2)) → (∃ Q24 : Bool → bw_W → Prop, bw_rb E (d + 0) mX0_fail [.ref 3, .int (gw_i w 3 2)] w Q24 ∧ ∀ v25 w26, Q24 v25 w26 →
((v25 = false → Q false w26) ∧ (v25 = true → Q true w26)))) ∧ (¬ (l1 < ((gw_i w 3 1) - (gw_i w 3 2))) → ((l2 < (gw_i w 3 4) → (∃ Q27 : Bool → bw_W → Prop, bw_rb E (d + 0) mX0_fail [.ref 3, .int (gw_i w 3 2)] w Q27 ∧ ∀ v28 w29, Q27 v28 w29 →
((v28 = false → Q false w29) ∧ (v28 = true → Q true w29)))) ∧ (¬ (l2 < (gw_i w 3 4)) → Q true w))))))) ∧ (¬ (57 < (gw_i w 2 ((gw_i w 3 1).toNatClampNeg))) → ((l1 ≤ ((gw_i w 3 1) - (gw_i w 3 2)) → bw_G E (d + 1) mX0_takeNumber 17 [some (.ref 3), some (.int l1), some (.int l2), none] [] (sw_i w 3 1 ((gw_i w 3 1) + 1)) (bw_qb Q)) ∧ (¬ (l1 ≤ ((gw_i w 3 1) - (gw_i w 3 2))) → (vp_in (gw_i w 3 1) 480) ∧
bw_G E (d + 1) mX0_takeNumber 17 [some (.ref 3), some (.int l1), some (.int l2), none] [] (sw_i (sw_i w 3 4 ((((gw_i w 3 4) * 10) + (gw_i w 2 ((gw_i w 3 1).toNatClampNeg))) - 48)) 3 1 ((gw_i w 3 1) + 1)) (bw_qb Q)))))))))) : bw_G E (d + 1) mX0_takeNumber 17 [some (.ref 3), some (.int l1), some (.int l2), none] [] w (bw_qb Q) := by
  refine bw_aload_n (i := 0) dX0_takeNumber_17 rfl rfl ?_
  refine bw_geti fg_BentWords_Cursor_15 rfl dX0_takeNumber_18 ?_
  refine bw_aload_n (i := 0) dX0_takeNumber_21 rfl rfl ?_
  refine bw_getr (r := 1) fg_BentWords_Cursor_9 rfl rfl dX0_takeNumber_22 ?_
  refine bw_geti fg_BentWords_Cursor_22 rfl dX0_takeNumber_25 ?_
  refine bw_icmp_ge (tgt := 118) dX0_takeNumber_28 (by decide) (fun c => ?_) (fun c => ?_)
  · replace h := h.1 (c)
    refine bw_aload_n (i := 0) dX0_takeNumber_118 rfl rfl ?_
    refine bw_geti fg_BentWords_Cursor_15 rfl dX0_takeNumber_119 ?_
    refine bw_aload_n (i := 0) dX0_takeNumber_122 rfl rfl ?_
    refine bw_geti fg_BentWords_Cursor_34 rfl dX0_takeNumber_123 ?_
    refine bw_icmp_le (tgt := 154) dX0_takeNumber_126 (by decide) (fun c => ?_) (fun c => ?_)
    · replace h := h.1 (c)
      refine bw_iconst (v := 0) dX0_takeNumber_154 (by decide) ?_
      refine bw_istore_n (i := 3) (L' := [some (.ref 3), some (.int l1), some (.int l2), some (.int 0)]) dX0_takeNumber_155 rfl (Nat.le_of_ble_eq_true rfl) rfl ?_
      refine bw_iload_n (i := 3) dX0_takeNumber_156 rfl rfl ?_
      refine bw_if_ne (tgt := 171) dX0_takeNumber_157 (by decide) (fun c => absurd c (by decide)) (fun _ => ?_)
      refine bw_aload_n (i := 0) dX0_takeNumber_160 rfl rfl ?_
      refine bw_aload_n (i := 0) dX0_takeNumber_161 rfl rfl ?_
      refine bw_geti fg_BentWords_Cursor_34 rfl dX0_takeNumber_162 ?_
      obtain ⟨Q1, hr, h⟩ := h
      refine bw_cVb (As := [.int (gw_i w 3 2)]) (st := []) cv_BentWords_Cursor_41 rfl rfl hr rfl rfl (Nat.le_of_ble_eq_true rfl) dX0_takeNumber_165 (fun v2 w3 hv => ?_)
      replace h := h v2 w3 hv
      clear hr
      refine bw_ifb_eq (tgt := 175) dX0_takeNumber_168 (by decide) (fun c => ?_) (fun c => ?_)
      · replace h := h.1 (c)
        refine bw_iconst (v := 0) dX0_takeNumber_175 (by decide) ?_
        exact bw_ireturn dX0_takeNumber_176 rfl (bw_nb false) ⟨false, rfl, h⟩
      · replace h := h.2 (c)
        refine bw_iconst (v := 1) dX0_takeNumber_171 (by decide) ?_
        refine bw_goto (tgt := 176) dX0_takeNumber_172 (by decide) ?_
        exact bw_ireturn dX0_takeNumber_176 rfl (bw_nb true) ⟨true, rfl, h⟩
    · replace h := h.2 (c)
      refine bw_aload_n (i := 0) dX0_takeNumber_129 rfl rfl ?_
      refine bw_geti fg_BentWords_Cursor_15 rfl dX0_takeNumber_130 ?_
      refine bw_aload_n (i := 0) dX0_takeNumber_133 rfl rfl ?_
      refine bw_geti fg_BentWords_Cursor_34 rfl dX0_takeNumber_134 ?_
      refine bw_isub dX0_takeNumber_137 ?_
      refine bw_iload_n (i := 1) dX0_takeNumber_138 rfl rfl ?_
      refine bw_icmp_gt (tgt := 154) dX0_takeNumber_139 (by decide) (fun c => ?_) (fun c => ?_)
      · replace h := h.1 (c)
        refine bw_iconst (v := 0) dX0_takeNumber_154 (by decide) ?_
        refine bw_istore_n (i := 3) (L' := [some (.ref 3), some (.int l1), some (.int l2), some (.int 0)]) dX0_takeNumber_155 rfl (Nat.le_of_ble_eq_true rfl) rfl ?_
        refine bw_iload_n (i := 3) dX0_takeNumber_156 rfl rfl ?_
        refine bw_if_ne (tgt := 171) dX0_takeNumber_157 (by decide) (fun c => absurd c (by decide)) (fun _ => ?_)
        refine bw_aload_n (i := 0) dX0_takeNumber_160 rfl rfl ?_
        refine bw_aload_n (i := 0) dX0_takeNumber_161 rfl rfl ?_
        refine bw_geti fg_BentWords_Cursor_34 rfl dX0_takeNumber_162 ?_
        obtain ⟨Q4, hr, h⟩ := h
        refine bw_cVb (As := [.int (gw_i w 3 2)]) (st := []) cv_BentWords_Cursor_41 rfl rfl hr rfl rfl (Nat.le_of_ble_eq_true rfl) dX0_takeNumber_165 (fun v5 w6 hv => ?_)
        replace h := h v5 w6 hv
        clear hr
        refine bw_ifb_eq (tgt := 175) dX0_takeNumber_168 (by decide) (fun c => ?_) (fun c => ?_)
        · replace h := h.1 (c)
          refine bw_iconst (v := 0) dX0_takeNumber_175 (by decide) ?_
          exact bw_ireturn dX0_takeNumber_176 rfl (bw_nb false) ⟨false, rfl, h⟩
        · replace h := h.2 (c)
          refine bw_iconst (v := 1) dX0_takeNumber_171 (by decide) ?_
          refine bw_goto (tgt := 176) dX0_takeNumber_172 (by decide) ?_
          exact bw_ireturn dX0_takeNumber_176 rfl (bw_nb true) ⟨true, rfl, h⟩
      · replace h := h.2 (c)
        refine bw_aload_n (i := 0) dX0_takeNumber_142 rfl rfl ?_
        refine bw_geti fg_BentWords_Cursor_45 rfl dX0_takeNumber_143 ?_
        refine bw_iload_n (i := 2) dX0_takeNumber_146 rfl rfl ?_
        refine bw_icmp_gt (tgt := 154) dX0_takeNumber_147 (by decide) (fun c => ?_) (fun c => ?_)
        · replace h := h.1 (c)
          refine bw_iconst (v := 0) dX0_takeNumber_154 (by decide) ?_
          refine bw_istore_n (i := 3) (L' := [some (.ref 3), some (.int l1), some (.int l2), some (.int 0)]) dX0_takeNumber_155 rfl (Nat.le_of_ble_eq_true rfl) rfl ?_
          refine bw_iload_n (i := 3) dX0_takeNumber_156 rfl rfl ?_
          refine bw_if_ne (tgt := 171) dX0_takeNumber_157 (by decide) (fun c => absurd c (by decide)) (fun _ => ?_)
          refine bw_aload_n (i := 0) dX0_takeNumber_160 rfl rfl ?_
          refine bw_aload_n (i := 0) dX0_takeNumber_161 rfl rfl ?_
          refine bw_geti fg_BentWords_Cursor_34 rfl dX0_takeNumber_162 ?_
          obtain ⟨Q7, hr, h⟩ := h
          refine bw_cVb (As := [.int (gw_i w 3 2)]) (st := []) cv_BentWords_Cursor_41 rfl rfl hr rfl rfl (Nat.le_of_ble_eq_true rfl) dX0_takeNumber_165 (fun v8 w9 hv => ?_)
          replace h := h v8 w9 hv
          clear hr
          refine bw_ifb_eq (tgt := 175) dX0_takeNumber_168 (by decide) (fun c => ?_) (fun c => ?_)
          · replace h := h.1 (c)
            refine bw_iconst (v := 0) dX0_takeNumber_175 (by decide) ?_
            exact bw_ireturn dX0_takeNumber_176 rfl (bw_nb false) ⟨false, rfl, h⟩
          · replace h := h.2 (c)
            refine bw_iconst (v := 1) dX0_takeNumber_171 (by decide) ?_
            refine bw_goto (tgt := 176) dX0_takeNumber_172 (by decide) ?_
            exact bw_ireturn dX0_takeNumber_176 rfl (bw_nb true) ⟨true, rfl, h⟩
        · replace h := h.2 (c)
          refine bw_iconst (v := 1) dX0_takeNumber_150 (by decide) ?_
          refine bw_goto (tgt := 155) dX0_takeNumber_151 (by decide) ?_
          refine bw_istore_n (i := 3) (L' := [some (.ref 3), some (.int l1), some (.int l2), some (.int 1)]) dX0_takeNumber_155 rfl (Nat.le_of_ble_eq_true rfl) rfl ?_
          refine bw_iload_n (i := 3) dX0_takeNumber_156 rfl rfl ?_
          refine bw_if_ne (tgt := 171) dX0_takeNumber_157 (by decide) (fun _ => ?_) (fun c => absurd c (by decide))
          refine bw_iconst (v := 1) dX0_takeNumber_171 (by decide) ?_
          refine bw_goto (tgt := 176) dX0_takeNumber_172 (by decide) ?_
          exact bw_ireturn dX0_takeNumber_176 rfl (bw_nb true) ⟨true, rfl, h⟩
  · replace h := h.2 (c)
    refine bw_aload_n (i := 0) dX0_takeNumber_31 rfl rfl ?_
    refine bw_getr (r := 1) fg_BentWords_Cursor_9 rfl rfl dX0_takeNumber_32 ?_
    refine bw_getr (r := 2) fg_BentWords_Cursor_27 rfl rfl dX0_takeNumber_35 ?_
    refine bw_aload_n (i := 0) dX0_takeNumber_38 rfl rfl ?_
    refine bw_geti fg_BentWords_Cursor_15 rfl dX0_takeNumber_39 ?_
    obtain ⟨hi10, h⟩ := h
    refine bw_caload rfl hi10 dX0_takeNumber_42 ?_
    refine bw_bipush (v := 48) dX0_takeNumber_43 (by decide) ?_
    refine bw_icmp_lt (tgt := 118) dX0_takeNumber_45 (by decide) (fun c => ?_) (fun c => ?_)
    · replace h := h.1 (c)
      refine bw_aload_n (i := 0) dX0_takeNumber_118 rfl rfl ?_
      refine bw_geti fg_BentWords_Cursor_15 rfl dX0_takeNumber_119 ?_
      refine bw_aload_n (i := 0) dX0_takeNumber_122 rfl rfl ?_
      refine bw_geti fg_BentWords_Cursor_34 rfl dX0_takeNumber_123 ?_
      refine bw_icmp_le (tgt := 154) dX0_takeNumber_126 (by decide) (fun c => ?_) (fun c => ?_)
      · replace h := h.1 (c)
        refine bw_iconst (v := 0) dX0_takeNumber_154 (by decide) ?_
        refine bw_istore_n (i := 3) (L' := [some (.ref 3), some (.int l1), some (.int l2), some (.int 0)]) dX0_takeNumber_155 rfl (Nat.le_of_ble_eq_true rfl) rfl ?_
        refine bw_iload_n (i := 3) dX0_takeNumber_156 rfl rfl ?_
        refine bw_if_ne (tgt := 171) dX0_takeNumber_157 (by decide) (fun c => absurd c (by decide)) (fun _ => ?_)
        refine bw_aload_n (i := 0) dX0_takeNumber_160 rfl rfl ?_
        refine bw_aload_n (i := 0) dX0_takeNumber_161 rfl rfl ?_
        refine bw_geti fg_BentWords_Cursor_34 rfl dX0_takeNumber_162 ?_
        obtain ⟨Q11, hr, h⟩ := h
        refine bw_cVb (As := [.int (gw_i w 3 2)]) (st := []) cv_BentWords_Cursor_41 rfl rfl hr rfl rfl (Nat.le_of_ble_eq_true rfl) dX0_takeNumber_165 (fun v12 w13 hv => ?_)
        replace h := h v12 w13 hv
        clear hr
        refine bw_ifb_eq (tgt := 175) dX0_takeNumber_168 (by decide) (fun c => ?_) (fun c => ?_)
        · replace h := h.1 (c)
          refine bw_iconst (v := 0) dX0_takeNumber_175 (by decide) ?_
          exact bw_ireturn dX0_takeNumber_176 rfl (bw_nb false) ⟨false, rfl, h⟩
        · replace h := h.2 (c)
          refine bw_iconst (v := 1) dX0_takeNumber_171 (by decide) ?_
          refine bw_goto (tgt := 176) dX0_takeNumber_172 (by decide) ?_
          exact bw_ireturn dX0_takeNumber_176 rfl (bw_nb true) ⟨true, rfl, h⟩
      · replace h := h.2 (c)
        refine bw_aload_n (i := 0) dX0_takeNumber_129 rfl rfl ?_
        refine bw_geti fg_BentWords_Cursor_15 rfl dX0_takeNumber_130 ?_
        refine bw_aload_n (i := 0) dX0_takeNumber_133 rfl rfl ?_
        refine bw_geti fg_BentWords_Cursor_34 rfl dX0_takeNumber_134 ?_
        refine bw_isub dX0_takeNumber_137 ?_
        refine bw_iload_n (i := 1) dX0_takeNumber_138 rfl rfl ?_
        refine bw_icmp_gt (tgt := 154) dX0_takeNumber_139 (by decide) (fun c => ?_) (fun c => ?_)
        · replace h := h.1 (c)
          refine bw_iconst (v := 0) dX0_takeNumber_154 (by decide) ?_
          refine bw_istore_n (i := 3) (L' := [some (.ref 3), some (.int l1), some (.int l2), some (.int 0)]) dX0_takeNumber_155 rfl (Nat.le_of_ble_eq_true rfl) rfl ?_
          refine bw_iload_n (i := 3) dX0_takeNumber_156 rfl rfl ?_
          refine bw_if_ne (tgt := 171) dX0_takeNumber_157 (by decide) (fun c => absurd c (by decide)) (fun _ => ?_)
          refine bw_aload_n (i := 0) dX0_takeNumber_160 rfl rfl ?_
          refine bw_aload_n (i := 0) dX0_takeNumber_161 rfl rfl ?_
          refine bw_geti fg_BentWords_Cursor_34 rfl dX0_takeNumber_162 ?_
          obtain ⟨Q14, hr, h⟩ := h
          refine bw_cVb (As := [.int (gw_i w 3 2)]) (st := []) cv_BentWords_Cursor_41 rfl rfl hr rfl rfl (Nat.le_of_ble_eq_true rfl) dX0_takeNumber_165 (fun v15 w16 hv => ?_)
          replace h := h v15 w16 hv
          clear hr
          refine bw_ifb_eq (tgt := 175) dX0_takeNumber_168 (by decide) (fun c => ?_) (fun c => ?_)
          · replace h := h.1 (c)
            refine bw_iconst (v := 0) dX0_takeNumber_175 (by decide) ?_
            exact bw_ireturn dX0_takeNumber_176 rfl (bw_nb false) ⟨false, rfl, h⟩
          · replace h := h.2 (c)
            refine bw_iconst (v := 1) dX0_takeNumber_171 (by decide) ?_
            refine bw_goto (tgt := 176) dX0_takeNumber_172 (by decide) ?_
            exact bw_ireturn dX0_takeNumber_176 rfl (bw_nb true) ⟨true, rfl, h⟩
        · replace h := h.2 (c)
          refine bw_aload_n (i := 0) dX0_takeNumber_142 rfl rfl ?_
          refine bw_geti fg_BentWords_Cursor_45 rfl dX0_takeNumber_143 ?_
          refine bw_iload_n (i := 2) dX0_takeNumber_146 rfl rfl ?_
          refine bw_icmp_gt (tgt := 154) dX0_takeNumber_147 (by decide) (fun c => ?_) (fun c => ?_)
          · replace h := h.1 (c)
            refine bw_iconst (v := 0) dX0_takeNumber_154 (by decide) ?_
            refine bw_istore_n (i := 3) (L' := [some (.ref 3), some (.int l1), some (.int l2), some (.int 0)]) dX0_takeNumber_155 rfl (Nat.le_of_ble_eq_true rfl) rfl ?_
            refine bw_iload_n (i := 3) dX0_takeNumber_156 rfl rfl ?_
            refine bw_if_ne (tgt := 171) dX0_takeNumber_157 (by decide) (fun c => absurd c (by decide)) (fun _ => ?_)
            refine bw_aload_n (i := 0) dX0_takeNumber_160 rfl rfl ?_
            refine bw_aload_n (i := 0) dX0_takeNumber_161 rfl rfl ?_
            refine bw_geti fg_BentWords_Cursor_34 rfl dX0_takeNumber_162 ?_
            obtain ⟨Q17, hr, h⟩ := h
            refine bw_cVb (As := [.int (gw_i w 3 2)]) (st := []) cv_BentWords_Cursor_41 rfl rfl hr rfl rfl (Nat.le_of_ble_eq_true rfl) dX0_takeNumber_165 (fun v18 w19 hv => ?_)
            replace h := h v18 w19 hv
            clear hr
            refine bw_ifb_eq (tgt := 175) dX0_takeNumber_168 (by decide) (fun c => ?_) (fun c => ?_)
            · replace h := h.1 (c)
              refine bw_iconst (v := 0) dX0_takeNumber_175 (by decide) ?_
              exact bw_ireturn dX0_takeNumber_176 rfl (bw_nb false) ⟨false, rfl, h⟩
            · replace h := h.2 (c)
              refine bw_iconst (v := 1) dX0_takeNumber_171 (by decide) ?_
              refine bw_goto (tgt := 176) dX0_takeNumber_172 (by decide) ?_
              exact bw_ireturn dX0_takeNumber_176 rfl (bw_nb true) ⟨true, rfl, h⟩
          · replace h := h.2 (c)
            refine bw_iconst (v := 1) dX0_takeNumber_150 (by decide) ?_
            refine bw_goto (tgt := 155) dX0_takeNumber_151 (by decide) ?_
            refine bw_istore_n (i := 3) (L' := [some (.ref 3), some (.int l1), some (.int l2), some (.int 1)]) dX0_takeNumber_155 rfl (Nat.le_of_ble_eq_true rfl) rfl ?_
            refine bw_iload_n (i := 3) dX0_takeNumber_156 rfl rfl ?_
            refine bw_if_ne (tgt := 171) dX0_takeNumber_157 (by decide) (fun _ => ?_) (fun c => absurd c (by decide))
            refine bw_iconst (v := 1) dX0_takeNumber_171 (by decide) ?_
            refine bw_goto (tgt := 176) dX0_takeNumber_172 (by decide) ?_
            exact bw_ireturn dX0_takeNumber_176 rfl (bw_nb true) ⟨true, rfl, h⟩
    · replace h := h.2 (c)
      refine bw_aload_n (i := 0) dX0_takeNumber_48 rfl rfl ?_
      refine bw_getr (r := 1) fg_BentWords_Cursor_9 rfl rfl dX0_takeNumber_49 ?_
      refine bw_getr (r := 2) fg_BentWords_Cursor_27 rfl rfl dX0_takeNumber_52 ?_
      refine bw_aload_n (i := 0) dX0_takeNumber_55 rfl rfl ?_
      refine bw_geti fg_BentWords_Cursor_15 rfl dX0_takeNumber_56 ?_
      obtain ⟨hi20, h⟩ := h
      refine bw_caload rfl hi20 dX0_takeNumber_59 ?_
      refine bw_bipush (v := 57) dX0_takeNumber_60 (by decide) ?_
      refine bw_icmp_gt (tgt := 118) dX0_takeNumber_62 (by decide) (fun c => ?_) (fun c => ?_)
      · replace h := h.1 (c)
        refine bw_aload_n (i := 0) dX0_takeNumber_118 rfl rfl ?_
        refine bw_geti fg_BentWords_Cursor_15 rfl dX0_takeNumber_119 ?_
        refine bw_aload_n (i := 0) dX0_takeNumber_122 rfl rfl ?_
        refine bw_geti fg_BentWords_Cursor_34 rfl dX0_takeNumber_123 ?_
        refine bw_icmp_le (tgt := 154) dX0_takeNumber_126 (by decide) (fun c => ?_) (fun c => ?_)
        · replace h := h.1 (c)
          refine bw_iconst (v := 0) dX0_takeNumber_154 (by decide) ?_
          refine bw_istore_n (i := 3) (L' := [some (.ref 3), some (.int l1), some (.int l2), some (.int 0)]) dX0_takeNumber_155 rfl (Nat.le_of_ble_eq_true rfl) rfl ?_
          refine bw_iload_n (i := 3) dX0_takeNumber_156 rfl rfl ?_
          refine bw_if_ne (tgt := 171) dX0_takeNumber_157 (by decide) (fun c => absurd c (by decide)) (fun _ => ?_)
          refine bw_aload_n (i := 0) dX0_takeNumber_160 rfl rfl ?_
          refine bw_aload_n (i := 0) dX0_takeNumber_161 rfl rfl ?_
          refine bw_geti fg_BentWords_Cursor_34 rfl dX0_takeNumber_162 ?_
          obtain ⟨Q21, hr, h⟩ := h
          refine bw_cVb (As := [.int (gw_i w 3 2)]) (st := []) cv_BentWords_Cursor_41 rfl rfl hr rfl rfl (Nat.le_of_ble_eq_true rfl) dX0_takeNumber_165 (fun v22 w23 hv => ?_)
          replace h := h v22 w23 hv
          clear hr
          refine bw_ifb_eq (tgt := 175) dX0_takeNumber_168 (by decide) (fun c => ?_) (fun c => ?_)
          · replace h := h.1 (c)
            refine bw_iconst (v := 0) dX0_takeNumber_175 (by decide) ?_
            exact bw_ireturn dX0_takeNumber_176 rfl (bw_nb false) ⟨false, rfl, h⟩
          · replace h := h.2 (c)
            refine bw_iconst (v := 1) dX0_takeNumber_171 (by decide) ?_
            refine bw_goto (tgt := 176) dX0_takeNumber_172 (by decide) ?_
            exact bw_ireturn dX0_takeNumber_176 rfl (bw_nb true) ⟨true, rfl, h⟩
        · replace h := h.2 (c)
          refine bw_aload_n (i := 0) dX0_takeNumber_129 rfl rfl ?_
          refine bw_geti fg_BentWords_Cursor_15 rfl dX0_takeNumber_130 ?_
          refine bw_aload_n (i := 0) dX0_takeNumber_133 rfl rfl ?_
          refine bw_geti fg_BentWords_Cursor_34 rfl dX0_takeNumber_134 ?_
          refine bw_isub dX0_takeNumber_137 ?_
          refine bw_iload_n (i := 1) dX0_takeNumber_138 rfl rfl ?_
          refine bw_icmp_gt (tgt := 154) dX0_takeNumber_139 (by decide) (fun c => ?_) (fun c => ?_)
          · replace h := h.1 (c)
            refine bw_iconst (v := 0) dX0_takeNumber_154 (by decide) ?_
            refine bw_istore_n (i := 3) (L' := [some (.ref 3), some (.int l1), some (.int l2), some (.int 0)]) dX0_takeNumber_155 rfl (Nat.le_of_ble_eq_true rfl) rfl ?_
            refine bw_iload_n (i := 3) dX0_takeNumber_156 rfl rfl ?_
            refine bw_if_ne (tgt := 171) dX0_takeNumber_157 (by decide) (fun c => absurd c (by decide)) (fun _ => ?_)
            refine bw_aload_n (i := 0) dX0_takeNumber_160 rfl rfl ?_
            refine bw_aload_n (i := 0) dX0_takeNumber_161 rfl rfl ?_
            refine bw_geti fg_BentWords_Cursor_34 rfl dX0_takeNumber_162 ?_
            obtain ⟨Q24, hr, h⟩ := h
            refine bw_cVb (As := [.int (gw_i w 3 2)]) (st := []) cv_BentWords_Cursor_41 rfl rfl hr rfl rfl (Nat.le_of_ble_eq_true rfl) dX0_takeNumber_165 (fun v25 w26 hv => ?_)
            replace h := h v25 w26 hv
            clear hr
            refine bw_ifb_eq (tgt := 175) dX0_takeNumber_168 (by decide) (fun c => ?_) (fun c => ?_)
            · replace h := h.1 (c)
              refine bw_iconst (v := 0) dX0_takeNumber_175 (by decide) ?_
              exact bw_ireturn dX0_takeNumber_176 rfl (bw_nb false) ⟨false, rfl, h⟩
            · replace h := h.2 (c)
              refine bw_iconst (v := 1) dX0_takeNumber_171 (by decide) ?_
              refine bw_goto (tgt := 176) dX0_takeNumber_172 (by decide) ?_
              exact bw_ireturn dX0_takeNumber_176 rfl (bw_nb true) ⟨true, rfl, h⟩
          · replace h := h.2 (c)
            refine bw_aload_n (i := 0) dX0_takeNumber_142 rfl rfl ?_
            refine bw_geti fg_BentWords_Cursor_45 rfl dX0_takeNumber_143 ?_
            refine bw_iload_n (i := 2) dX0_takeNumber_146 rfl rfl ?_
            refine bw_icmp_gt (tgt := 154) dX0_takeNumber_147 (by decide) (fun c => ?_) (fun c => ?_)
            · replace h := h.1 (c)
              refine bw_iconst (v := 0) dX0_takeNumber_154 (by decide) ?_
              refine bw_istore_n (i := 3) (L' := [some (.ref 3), some (.int l1), some (.int l2), some (.int 0)]) dX0_takeNumber_155 rfl (Nat.le_of_ble_eq_true rfl) rfl ?_
              refine bw_iload_n (i := 3) dX0_takeNumber_156 rfl rfl ?_
              refine bw_if_ne (tgt := 171) dX0_takeNumber_157 (by decide) (fun c => absurd c (by decide)) (fun _ => ?_)
              refine bw_aload_n (i := 0) dX0_takeNumber_160 rfl rfl ?_
              refine bw_aload_n (i := 0) dX0_takeNumber_161 rfl rfl ?_
              refine bw_geti fg_BentWords_Cursor_34 rfl dX0_takeNumber_162 ?_
              obtain ⟨Q27, hr, h⟩ := h
              refine bw_cVb (As := [.int (gw_i w 3 2)]) (st := []) cv_BentWords_Cursor_41 rfl rfl hr rfl rfl (Nat.le_of_ble_eq_true rfl) dX0_takeNumber_165 (fun v28 w29 hv => ?_)
              replace h := h v28 w29 hv
              clear hr
              refine bw_ifb_eq (tgt := 175) dX0_takeNumber_168 (by decide) (fun c => ?_) (fun c => ?_)
              · replace h := h.1 (c)
                refine bw_iconst (v := 0) dX0_takeNumber_175 (by decide) ?_
                exact bw_ireturn dX0_takeNumber_176 rfl (bw_nb false) ⟨false, rfl, h⟩
              · replace h := h.2 (c)
                refine bw_iconst (v := 1) dX0_takeNumber_171 (by decide) ?_
                refine bw_goto (tgt := 176) dX0_takeNumber_172 (by decide) ?_
                exact bw_ireturn dX0_takeNumber_176 rfl (bw_nb true) ⟨true, rfl, h⟩
            · replace h := h.2 (c)
              refine bw_iconst (v := 1) dX0_takeNumber_150 (by decide) ?_
              refine bw_goto (tgt := 155) dX0_takeNumber_151 (by decide) ?_
              refine bw_istore_n (i := 3) (L' := [some (.ref 3), some (.int l1), some (.int l2), some (.int 1)]) dX0_takeNumber_155 rfl (Nat.le_of_ble_eq_true rfl) rfl ?_
              refine bw_iload_n (i := 3) dX0_takeNumber_156 rfl rfl ?_
              refine bw_if_ne (tgt := 171) dX0_takeNumber_157 (by decide) (fun _ => ?_) (fun c => absurd c (by decide))
              refine bw_iconst (v := 1) dX0_takeNumber_171 (by decide) ?_
              refine bw_goto (tgt := 176) dX0_takeNumber_172 (by decide) ?_
              exact bw_ireturn dX0_takeNumber_176 rfl (bw_nb true) ⟨true, rfl, h⟩
      · replace h := h.2 (c)
        refine bw_aload_n (i := 0) dX0_takeNumber_65 rfl rfl ?_
        refine bw_geti fg_BentWords_Cursor_15 rfl dX0_takeNumber_66 ?_
        refine bw_aload_n (i := 0) dX0_takeNumber_69 rfl rfl ?_
        refine bw_geti fg_BentWords_Cursor_34 rfl dX0_takeNumber_70 ?_
        refine bw_isub dX0_takeNumber_73 ?_
        refine bw_iload_n (i := 1) dX0_takeNumber_74 rfl rfl ?_
        refine bw_icmp_ge (tgt := 105) dX0_takeNumber_75 (by decide) (fun c => ?_) (fun c => ?_)
        · replace h := h.1 (c)
          refine bw_aload_n (i := 0) dX0_takeNumber_105 rfl rfl ?_
          refine bw_dup dX0_takeNumber_106 rfl ?_
          refine bw_geti fg_BentWords_Cursor_15 rfl dX0_takeNumber_107 ?_
          refine bw_iconst (v := 1) dX0_takeNumber_110 (by decide) ?_
          refine bw_iadd dX0_takeNumber_111 ?_
          refine bw_puti fp_BentWords_Cursor_15 rfl rfl rfl dX0_takeNumber_112 ?_
          refine bw_goto (tgt := 17) dX0_takeNumber_115 (by decide) ?_
          exact h
        · replace h := h.2 (c)
          refine bw_aload_n (i := 0) dX0_takeNumber_78 rfl rfl ?_
          refine bw_aload_n (i := 0) dX0_takeNumber_79 rfl rfl ?_
          refine bw_geti fg_BentWords_Cursor_45 rfl dX0_takeNumber_80 ?_
          refine bw_bipush (v := 10) dX0_takeNumber_83 (by decide) ?_
          refine bw_imul dX0_takeNumber_85 ?_
          refine bw_aload_n (i := 0) dX0_takeNumber_86 rfl rfl ?_
          refine bw_getr (r := 1) fg_BentWords_Cursor_9 rfl rfl dX0_takeNumber_87 ?_
          refine bw_getr (r := 2) fg_BentWords_Cursor_27 rfl rfl dX0_takeNumber_90 ?_
          refine bw_aload_n (i := 0) dX0_takeNumber_93 rfl rfl ?_
          refine bw_geti fg_BentWords_Cursor_15 rfl dX0_takeNumber_94 ?_
          obtain ⟨hi30, h⟩ := h
          refine bw_caload rfl hi30 dX0_takeNumber_97 ?_
          refine bw_iadd dX0_takeNumber_98 ?_
          refine bw_bipush (v := 48) dX0_takeNumber_99 (by decide) ?_
          refine bw_isub dX0_takeNumber_101 ?_
          refine bw_puti fp_BentWords_Cursor_45 rfl rfl rfl dX0_takeNumber_102 ?_
          refine bw_aload_n (i := 0) dX0_takeNumber_105 rfl rfl ?_
          refine bw_dup dX0_takeNumber_106 rfl ?_
          refine bw_geti fg_BentWords_Cursor_15 rfl dX0_takeNumber_107 ?_
          rw [show gw_i (sw_i w 3 4 ((((gw_i w 3 4) * 10) + (gw_i w 2 ((gw_i w 3 1).toNatClampNeg))) - 48)) 3 1 = (gw_i w 3 1) from rfl]
          refine bw_iconst (v := 1) dX0_takeNumber_110 (by decide) ?_
          refine bw_iadd dX0_takeNumber_111 ?_
          refine bw_puti fp_BentWords_Cursor_15 rfl rfl rfl dX0_takeNumber_112 ?_
          refine bw_goto (tgt := 17) dX0_takeNumber_115 (by decide) ?_
          exact h
theorem wfX0_takeNumber {E : bw_E} {d : Nat} {w : bw_W} {Q : Bool → bw_W → Prop} {a0 : Int32} {a1 : Int32}  (h : (∃ Q1 : bw_W → Prop, bw_rv E (d + 0) mX0_skipBlanks [.ref 3] w Q1 ∧ ∀ w3, Q1 w3 →
bw_G E (d + 1) mX0_takeNumber 17 [some (.ref 3), some (.int a0), some (.int a1), none] [] (sw_i (sw_i w3 3 2 (gw_i w3 3 1)) 3 4 0) (bw_qb Q))) : bw_rb E (d + 1) mX0_takeNumber [.ref 3, .int a0, .int a1] w Q := by
  refine bw_enter rfl (Nat.le_of_ble_eq_true rfl) ?_
  refine bw_aload_n (i := 0) dX0_takeNumber_0 rfl rfl ?_
  obtain ⟨Q1, hr, h⟩ := h
  refine bw_cVv (As := []) (st := []) cv_BentWords_Cursor_31 rfl rfl hr rfl rfl (Nat.le_of_ble_eq_true rfl) dX0_takeNumber_1 (fun w3 hv => ?_)
  replace h := h w3 hv
  clear hr
  refine bw_aload_n (i := 0) dX0_takeNumber_4 rfl rfl ?_
  refine bw_aload_n (i := 0) dX0_takeNumber_5 rfl rfl ?_
  refine bw_geti fg_BentWords_Cursor_15 rfl dX0_takeNumber_6 ?_
  refine bw_puti fp_BentWords_Cursor_34 rfl rfl rfl dX0_takeNumber_9 ?_
  refine bw_aload_n (i := 0) dX0_takeNumber_12 rfl rfl ?_
  refine bw_iconst (v := 0) dX0_takeNumber_13 (by decide) ?_
  refine bw_puti fp_BentWords_Cursor_45 rfl rfl rfl dX0_takeNumber_14 ?_
  exact h
theorem wfX1_drawWord_4 {E : bw_E} {d : Nat} {w : bw_W} {Q : Int64 → bw_W → Prop} {l1 : Int64} {l3 : Int32}  (h : ((3 ≤ l3 → Q l1 w) ∧ (¬ (3 ≤ l3) → (∃ Q1 : Int32 → bw_W → Prop, bw_ri E (d + 0) mX1_next [.ref 48, .int 3] w Q1 ∧ ∀ v2 w3, Q1 v2 w3 →
bw_G E (d + 1) mX1_drawWord 4 [some (.ref 48), some (.long (l1 ||| (((97 + v2).toInt64) <<< ((8 * l3).toInt64 &&& 63)))), none, some (.int (l3 + 1))] [] w3 (bw_ql Q))))) : bw_G E (d + 1) mX1_drawWord 4 [some (.ref 48), some (.long l1), none, some (.int l3)] [] w (bw_ql Q) := by
  refine bw_iload_n (i := 3) dX1_drawWord_4 rfl rfl ?_
  refine bw_iconst (v := 3) dX1_drawWord_5 (by decide) ?_
  refine bw_icmp_ge (tgt := 32) dX1_drawWord_6 (by decide) (fun c => ?_) (fun c => ?_)
  · replace h := h.1 (c)
    refine bw_lload_n (i := 1) dX1_drawWord_32 rfl rfl ?_
    exact bw_lreturn dX1_drawWord_33 rfl ⟨_, rfl, h⟩
  · replace h := h.2 (c)
    refine bw_lload_n (i := 1) dX1_drawWord_9 rfl rfl ?_
    refine bw_bipush (v := 97) dX1_drawWord_10 (by decide) ?_
    refine bw_aload_n (i := 0) dX1_drawWord_12 rfl rfl ?_
    refine bw_iconst (v := 3) dX1_drawWord_13 (by decide) ?_
    obtain ⟨Q1, hr, h⟩ := h
    refine bw_cVi (As := [.int 3]) (st := [.int 97, .long l1]) cv_BentWords_Draws_19 rfl rfl hr rfl rfl (Nat.le_of_ble_eq_true rfl) dX1_drawWord_14 (fun v2 w3 hv => ?_)
    replace h := h v2 w3 hv
    clear hr
    refine bw_iadd dX1_drawWord_17 ?_
    refine bw_i2l dX1_drawWord_18 ?_
    refine bw_bipush (v := 8) dX1_drawWord_19 (by decide) ?_
    refine bw_iload_n (i := 3) dX1_drawWord_21 rfl rfl ?_
    refine bw_imul dX1_drawWord_22 ?_
    refine bw_lshl dX1_drawWord_23 ?_
    refine bw_lor dX1_drawWord_24 ?_
    refine bw_lstore_n (i := 1) (L' := [some (.ref 48), some (.long (l1 ||| (((97 + v2).toInt64) <<< ((8 * l3).toInt64 &&& 63)))), none, some (.int l3)]) dX1_drawWord_25 rfl (Nat.le_of_ble_eq_true rfl) rfl ?_
    refine bw_iinc (i := 3) (x := l3) (v := (l3 + 1)) (L' := [some (.ref 48), some (.long (l1 ||| (((97 + v2).toInt64) <<< ((8 * l3).toInt64 &&& 63)))), none, some (.int (l3 + 1))]) dX1_drawWord_26 rfl rfl (Nat.le_of_ble_eq_true rfl) rfl ?_
    refine bw_goto (tgt := 4) dX1_drawWord_29 (by decide) ?_
    exact h
theorem wfX1_drawWord {E : bw_E} {d : Nat} {w : bw_W} {Q : Int64 → bw_W → Prop}   (h : bw_G E (d + 1) mX1_drawWord 4 [some (.ref 48), some (.long 0), none, some (.int 0)] [] w (bw_ql Q)) : bw_rl E (d + 1) mX1_drawWord [.ref 48] w Q := by
  refine bw_enter rfl (Nat.le_of_ble_eq_true rfl) ?_
  refine bw_lconst (v := 0) dX1_drawWord_0 rfl ?_
  refine bw_lstore_n (i := 1) (L' := [some (.ref 48), some (.long 0), none, none]) dX1_drawWord_1 rfl (Nat.le_of_ble_eq_true rfl) rfl ?_
  refine bw_iconst (v := 0) dX1_drawWord_2 (by decide) ?_
  refine bw_istore_n (i := 3) (L' := [some (.ref 48), some (.long 0), none, some (.int 0)]) dX1_drawWord_3 rfl (Nat.le_of_ble_eq_true rfl) rfl ?_
  exact h
theorem wfX2_logged {E : bw_E} {d : Nat} {w : bw_W} {Q : Int32 → bw_W → Prop}   (h : Q (if 60 < (gw_i w 37 1) then 60 else (gw_i w 37 1)) w) : bw_ri E (d + 1) mX2_logged [.ref 37] w Q := by
  refine bw_enter rfl (Nat.le_of_ble_eq_true rfl) ?_
  refine bw_aload_n (i := 0) dX2_logged_0 rfl rfl ?_
  refine bw_geti fg_BentWords_History_22 rfl dX2_logged_1 ?_
  refine bw_bipush (v := 60) dX2_logged_4 (by decide) ?_
  refine bw_mmin cm_BentWords_History_29 (Nat.le_of_ble_eq_true rfl) dX2_logged_6 ?_
  exact bw_ireturn dX2_logged_9 rfl rfl ⟨_, rfl, h⟩
theorem wfX2_remember {E : bw_E} {d : Nat} {w : bw_W} {Q : bw_W → Prop} {a0 : Int32} {a1 : Int64}  (h : (vp_in ((gw_i w 37 1) - (gw_i w 37 1) / 40 * 40) 40) ∧
(vp_in ((gw_i w 37 1) - (gw_i w 37 1) / 40 * 40) 40) ∧
Q (sw_i (sw_l (sw_i w 39 (((gw_i w 37 1) - (gw_i w 37 1) / 40 * 40).toNatClampNeg) a0) 40 (((gw_i w 37 1) - (gw_i w 37 1) / 40 * 40).toNatClampNeg) a1) 37 4 (if 40 < ((gw_i w 37 4) + 1) then 40 else ((gw_i w 37 4) + 1)))) : bw_rv E (d + 1) mX2_remember [.ref 37, .int a0, .long a1] w Q := by
  refine bw_enter rfl (Nat.le_of_ble_eq_true rfl) ?_
  refine bw_aload_n (i := 0) dX2_remember_0 rfl rfl ?_
  refine bw_geti fg_BentWords_History_22 rfl dX2_remember_1 ?_
  refine bw_bipush (v := 40) dX2_remember_4 (by decide) ?_
  refine bw_irem dX2_remember_6 (by decide) ?_
  refine bw_istore (i := 4) (L' := [some (.ref 37), some (.int a0), some (.long a1), none, some (.int ((gw_i w 37 1) - (gw_i w 37 1) / 40 * 40))]) dX2_remember_7 (Nat.le_of_ble_eq_true rfl) rfl ?_
  refine bw_aload_n (i := 0) dX2_remember_9 rfl rfl ?_
  refine bw_getr (r := 39) fg_BentWords_History_15 rfl rfl dX2_remember_10 ?_
  refine bw_iload dX2_remember_13 rfl ?_
  refine bw_iload_n (i := 1) dX2_remember_15 rfl rfl ?_
  obtain ⟨hi1, h⟩ := h
  refine bw_iastore rfl hi1 dX2_remember_16 ?_
  refine bw_aload_n (i := 0) dX2_remember_17 rfl rfl ?_
  refine bw_getr (r := 40) fg_BentWords_History_18 rfl rfl dX2_remember_18 ?_
  refine bw_iload dX2_remember_21 rfl ?_
  refine bw_lload_n (i := 2) dX2_remember_23 rfl rfl ?_
  obtain ⟨hi2, h⟩ := h
  refine bw_lastore rfl hi2 dX2_remember_24 ?_
  refine bw_aload_n (i := 0) dX2_remember_25 rfl rfl ?_
  refine bw_aload_n (i := 0) dX2_remember_26 rfl rfl ?_
  refine bw_geti fg_BentWords_History_26 rfl dX2_remember_27 ?_
  rw [show gw_i (sw_l (sw_i w 39 (((gw_i w 37 1) - (gw_i w 37 1) / 40 * 40).toNatClampNeg) a0) 40 (((gw_i w 37 1) - (gw_i w 37 1) / 40 * 40).toNatClampNeg) a1) 37 4 = (gw_i w 37 4) from rfl]
  refine bw_iconst (v := 1) dX2_remember_30 (by decide) ?_
  refine bw_iadd dX2_remember_31 ?_
  refine bw_bipush (v := 40) dX2_remember_32 (by decide) ?_
  refine bw_mmin cm_BentWords_History_29 (Nat.le_of_ble_eq_true rfl) dX2_remember_34 ?_
  refine bw_puti fp_BentWords_History_26 rfl rfl rfl dX2_remember_37 ?_
  exact bw_return dX2_remember_40 rfl ⟨rfl, h⟩
theorem wfX2_copyLogFrom_im {E : bw_E} {d : Nat} {w : bw_W} {Q : bw_W → Prop}   (h : Q (sw_i (sw_i (cw_i w 44 (fun j => if j < 100 then (gw_i w 38 j) else (gw_i w 44 j))) 43 1 (gw_i w 37 1)) 43 4 0)) : bw_rv E (d + 1) mX2_copyLogFrom [.ref 43, .ref 37] w Q := by
  refine bw_enter rfl (Nat.le_of_ble_eq_true rfl) ?_
  refine bw_aload_n (i := 1) dX2_copyLogFrom_0 rfl rfl ?_
  refine bw_getr (r := 38) fg_BentWords_History_11 rfl rfl dX2_copyLogFrom_1 ?_
  refine bw_iconst (v := 0) dX2_copyLogFrom_4 (by decide) ?_
  refine bw_aload_n (i := 0) dX2_copyLogFrom_5 rfl rfl ?_
  refine bw_getr (r := 44) fg_BentWords_History_11 rfl rfl dX2_copyLogFrom_6 ?_
  refine bw_iconst (v := 0) dX2_copyLogFrom_9 (by decide) ?_
  refine bw_aload_n (i := 0) dX2_copyLogFrom_10 rfl rfl ?_
  refine bw_getr (r := 44) fg_BentWords_History_11 rfl rfl dX2_copyLogFrom_11 ?_
  refine bw_aleni (v := 100) rfl (by decide) dX2_copyLogFrom_14 ?_
  refine bw_copyi (k := 100) (f := (fun j => if j < 100 then (gw_i w 38 j) else (gw_i w 44 j))) rfl cc_BentWords_History_40 rfl rfl (by decide) (by decide) (by decide) (by decide) (Nat.le_of_ble_eq_true rfl) dX2_copyLogFrom_15 ?_
  refine bw_aload_n (i := 0) dX2_copyLogFrom_18 rfl rfl ?_
  refine bw_aload_n (i := 1) dX2_copyLogFrom_19 rfl rfl ?_
  refine bw_geti fg_BentWords_History_22 rfl dX2_copyLogFrom_20 ?_
  rw [show gw_i (cw_i w 44 (fun j => if j < 100 then (gw_i w 38 j) else (gw_i w 44 j))) 37 1 = (gw_i w 37 1) from rfl]
  refine bw_puti fp_BentWords_History_22 rfl rfl rfl dX2_copyLogFrom_23 ?_
  refine bw_aload_n (i := 0) dX2_copyLogFrom_26 rfl rfl ?_
  refine bw_iconst (v := 0) dX2_copyLogFrom_27 (by decide) ?_
  refine bw_puti fp_BentWords_History_26 rfl rfl rfl dX2_copyLogFrom_28 ?_
  exact bw_return dX2_copyLogFrom_31 rfl ⟨rfl, h⟩
theorem wfX2_copyLogFrom_bk {E : bw_E} {d : Nat} {w : bw_W} {Q : bw_W → Prop}   (h : Q (sw_i (sw_i (cw_i w 38 (fun j => if j < 100 then (gw_i w 44 j) else (gw_i w 38 j))) 37 1 (gw_i w 43 1)) 37 4 0)) : bw_rv E (d + 1) mX2_copyLogFrom [.ref 37, .ref 43] w Q := by
  refine bw_enter rfl (Nat.le_of_ble_eq_true rfl) ?_
  refine bw_aload_n (i := 1) dX2_copyLogFrom_0 rfl rfl ?_
  refine bw_getr (r := 44) fg_BentWords_History_11 rfl rfl dX2_copyLogFrom_1 ?_
  refine bw_iconst (v := 0) dX2_copyLogFrom_4 (by decide) ?_
  refine bw_aload_n (i := 0) dX2_copyLogFrom_5 rfl rfl ?_
  refine bw_getr (r := 38) fg_BentWords_History_11 rfl rfl dX2_copyLogFrom_6 ?_
  refine bw_iconst (v := 0) dX2_copyLogFrom_9 (by decide) ?_
  refine bw_aload_n (i := 0) dX2_copyLogFrom_10 rfl rfl ?_
  refine bw_getr (r := 38) fg_BentWords_History_11 rfl rfl dX2_copyLogFrom_11 ?_
  refine bw_aleni (v := 100) rfl (by decide) dX2_copyLogFrom_14 ?_
  refine bw_copyi (k := 100) (f := (fun j => if j < 100 then (gw_i w 44 j) else (gw_i w 38 j))) rfl cc_BentWords_History_40 rfl rfl (by decide) (by decide) (by decide) (by decide) (Nat.le_of_ble_eq_true rfl) dX2_copyLogFrom_15 ?_
  refine bw_aload_n (i := 0) dX2_copyLogFrom_18 rfl rfl ?_
  refine bw_aload_n (i := 1) dX2_copyLogFrom_19 rfl rfl ?_
  refine bw_geti fg_BentWords_History_22 rfl dX2_copyLogFrom_20 ?_
  rw [show gw_i (cw_i w 38 (fun j => if j < 100 then (gw_i w 44 j) else (gw_i w 38 j))) 43 1 = (gw_i w 43 1) from rfl]
  refine bw_puti fp_BentWords_History_22 rfl rfl rfl dX2_copyLogFrom_23 ?_
  refine bw_aload_n (i := 0) dX2_copyLogFrom_26 rfl rfl ?_
  refine bw_iconst (v := 0) dX2_copyLogFrom_27 (by decide) ?_
  refine bw_puti fp_BentWords_History_26 rfl rfl rfl dX2_copyLogFrom_28 ?_
  exact bw_return dX2_copyLogFrom_31 rfl ⟨rfl, h⟩
theorem wfX3_clear {E : bw_E} {d : Nat} {w : bw_W} {Q : bw_W → Prop}   (h : (∃ Q1 : bw_W → Prop, bw_rv E (d + 0) mX3_clearRow [.ref 8] (sw_i (sw_i w 5 0 0) 5 6 0) Q1 ∧ ∀ w3, Q1 w3 →
(∃ Q4 : bw_W → Prop, bw_rv E (d + 0) mX3_clearRow [.ref 9] w3 Q4 ∧ ∀ w6, Q4 w6 →
(∃ Q7 : bw_W → Prop, bw_rv E (d + 0) mX3_clearRow [.ref 10] w6 Q7 ∧ ∀ w9, Q7 w9 →
Q w9)))) : bw_rv E (d + 1) mX3_clear [.ref 5] w Q := by
  refine bw_enter rfl (Nat.le_of_ble_eq_true rfl) ?_
  refine bw_aload_n (i := 0) dX3_clear_0 rfl rfl ?_
  refine bw_iconst (v := 0) dX3_clear_1 (by decide) ?_
  refine bw_puti fp_BentWords_Lexicon_47 rfl rfl rfl dX3_clear_2 ?_
  refine bw_aload_n (i := 0) dX3_clear_5 rfl rfl ?_
  refine bw_iconst (v := 0) dX3_clear_6 (by decide) ?_
  refine bw_puti fp_BentWords_Lexicon_51 rfl rfl rfl dX3_clear_7 ?_
  refine bw_aload_n (i := 0) dX3_clear_10 rfl rfl ?_
  refine bw_getr (r := 8) fg_BentWords_Lexicon_19 rfl rfl dX3_clear_11 ?_
  obtain ⟨Q1, hr, h⟩ := h
  refine bw_cSv (As := [.ref 8]) (st := []) cs_BentWords_Lexicon_54 hr rfl rfl (Nat.le_of_ble_eq_true rfl) dX3_clear_14 (fun w3 hv => ?_)
  replace h := h w3 hv
  clear hr
  refine bw_aload_n (i := 0) dX3_clear_17 rfl rfl ?_
  refine bw_getr (r := 9) fg_BentWords_Lexicon_22 rfl rfl dX3_clear_18 ?_
  obtain ⟨Q4, hr, h⟩ := h
  refine bw_cSv (As := [.ref 9]) (st := []) cs_BentWords_Lexicon_54 hr rfl rfl (Nat.le_of_ble_eq_true rfl) dX3_clear_21 (fun w6 hv => ?_)
  replace h := h w6 hv
  clear hr
  refine bw_aload_n (i := 0) dX3_clear_24 rfl rfl ?_
  refine bw_getr (r := 10) fg_BentWords_Lexicon_25 rfl rfl dX3_clear_25 ?_
  obtain ⟨Q7, hr, h⟩ := h
  refine bw_cSv (As := [.ref 10]) (st := []) cs_BentWords_Lexicon_54 hr rfl rfl (Nat.le_of_ble_eq_true rfl) dX3_clear_28 (fun w9 hv => ?_)
  replace h := h w9 hv
  clear hr
  exact bw_return dX3_clear_31 rfl ⟨rfl, h⟩
theorem wfX3_copyFrom {E : bw_E} {d : Nat} {w : bw_W} {Q : bw_W → Prop}   (h : (∀ i, i < 32 → fits .char (.int (gw_i (cw_i (cw_l (cw_l (cw_l (cw_l (cw_i (cw_l (sw_i (sw_i w 18 0 (gw_i w 5 0)) 18 6 (gw_i w 5 6)) 19 (fun j => if j < 6 then (gw_l w 6 j) else (gw_l w 19 j))) 20 (fun j => if j < 6 then (gw_i w 7 j) else (gw_i w 20 j))) 21 (fun j => if j < 48 then (gw_l w 8 j) else (gw_l w 21 j))) 22 (fun j => if j < 24 then (gw_l w 9 j) else (gw_l w 22 j))) 23 (fun j => if j < 24 then (gw_l w 10 j) else (gw_l w 23 j))) 24 (fun j => if j < 4 then (gw_l w 11 j) else (gw_l w 24 j))) 25 (fun j => if j < 4 then (gw_i w 12 j) else (gw_i w 25 j))) 13 i)) = true) ∧
Q (cw_l (cw_i (cw_i (cw_i (cw_i (cw_l (cw_l (cw_l (cw_l (cw_i (cw_l (sw_i (sw_i w 18 0 (gw_i w 5 0)) 18 6 (gw_i w 5 6)) 19 (fun j => if j < 6 then (gw_l w 6 j) else (gw_l w 19 j))) 20 (fun j => if j < 6 then (gw_i w 7 j) else (gw_i w 20 j))) 21 (fun j => if j < 48 then (gw_l w 8 j) else (gw_l w 21 j))) 22 (fun j => if j < 24 then (gw_l w 9 j) else (gw_l w 22 j))) 23 (fun j => if j < 24 then (gw_l w 10 j) else (gw_l w 23 j))) 24 (fun j => if j < 4 then (gw_l w 11 j) else (gw_l w 24 j))) 25 (fun j => if j < 4 then (gw_i w 12 j) else (gw_i w 25 j))) 26 (fun j => if j < 32 then (gw_i w 13 j) else (gw_i w 26 j))) 27 (fun j => if j < 32 then (gw_i w 14 j) else (gw_i w 27 j))) 28 (fun j => if j < 32 then (gw_i w 15 j) else (gw_i w 28 j))) 29 (fun j => if j < 32 then (gw_l w 16 j) else (gw_l w 29 j)))) : bw_rv E (d + 1) mX3_copyFrom [.ref 18, .ref 5] w Q := by
  refine bw_enter rfl (Nat.le_of_ble_eq_true rfl) ?_
  refine bw_aload_n (i := 0) dX3_copyFrom_0 rfl rfl ?_
  refine bw_aload_n (i := 1) dX3_copyFrom_1 rfl rfl ?_
  refine bw_geti fg_BentWords_Lexicon_47 rfl dX3_copyFrom_2 ?_
  refine bw_puti fp_BentWords_Lexicon_47 rfl rfl rfl dX3_copyFrom_5 ?_
  refine bw_aload_n (i := 0) dX3_copyFrom_8 rfl rfl ?_
  refine bw_aload_n (i := 1) dX3_copyFrom_9 rfl rfl ?_
  refine bw_geti fg_BentWords_Lexicon_51 rfl dX3_copyFrom_10 ?_
  rw [show gw_i (sw_i w 18 0 (gw_i w 5 0)) 5 6 = (gw_i w 5 6) from rfl]
  refine bw_puti fp_BentWords_Lexicon_51 rfl rfl rfl dX3_copyFrom_13 ?_
  refine bw_aload_n (i := 1) dX3_copyFrom_16 rfl rfl ?_
  refine bw_getr (r := 6) fg_BentWords_Lexicon_9 rfl rfl dX3_copyFrom_17 ?_
  refine bw_iconst (v := 0) dX3_copyFrom_20 (by decide) ?_
  refine bw_aload_n (i := 0) dX3_copyFrom_21 rfl rfl ?_
  refine bw_getr (r := 19) fg_BentWords_Lexicon_9 rfl rfl dX3_copyFrom_22 ?_
  refine bw_iconst (v := 0) dX3_copyFrom_25 (by decide) ?_
  refine bw_aload_n (i := 0) dX3_copyFrom_26 rfl rfl ?_
  refine bw_getr (r := 19) fg_BentWords_Lexicon_9 rfl rfl dX3_copyFrom_27 ?_
  refine bw_alenl (v := 6) rfl (by decide) dX3_copyFrom_30 ?_
  refine bw_copyl (k := 6) (f := (fun j => if j < 6 then (gw_l w 6 j) else (gw_l w 19 j))) rfl cc_BentWords_Lexicon_58 rfl rfl (by decide) (by decide) (by decide) (by decide) (Nat.le_of_ble_eq_true rfl) dX3_copyFrom_31 ?_
  refine bw_aload_n (i := 1) dX3_copyFrom_34 rfl rfl ?_
  refine bw_getr (r := 7) fg_BentWords_Lexicon_15 rfl rfl dX3_copyFrom_35 ?_
  refine bw_iconst (v := 0) dX3_copyFrom_38 (by decide) ?_
  refine bw_aload_n (i := 0) dX3_copyFrom_39 rfl rfl ?_
  refine bw_getr (r := 20) fg_BentWords_Lexicon_15 rfl rfl dX3_copyFrom_40 ?_
  refine bw_iconst (v := 0) dX3_copyFrom_43 (by decide) ?_
  refine bw_aload_n (i := 0) dX3_copyFrom_44 rfl rfl ?_
  refine bw_getr (r := 20) fg_BentWords_Lexicon_15 rfl rfl dX3_copyFrom_45 ?_
  refine bw_aleni (v := 6) rfl (by decide) dX3_copyFrom_48 ?_
  refine bw_copyi (k := 6) (f := (fun j => if j < 6 then (gw_i w 7 j) else (gw_i w 20 j))) rfl cc_BentWords_Lexicon_58 rfl rfl (by decide) (by decide) (by decide) (by decide) (Nat.le_of_ble_eq_true rfl) dX3_copyFrom_49 ?_
  refine bw_aload_n (i := 1) dX3_copyFrom_52 rfl rfl ?_
  refine bw_getr (r := 8) fg_BentWords_Lexicon_19 rfl rfl dX3_copyFrom_53 ?_
  refine bw_iconst (v := 0) dX3_copyFrom_56 (by decide) ?_
  refine bw_aload_n (i := 0) dX3_copyFrom_57 rfl rfl ?_
  refine bw_getr (r := 21) fg_BentWords_Lexicon_19 rfl rfl dX3_copyFrom_58 ?_
  refine bw_iconst (v := 0) dX3_copyFrom_61 (by decide) ?_
  refine bw_aload_n (i := 0) dX3_copyFrom_62 rfl rfl ?_
  refine bw_getr (r := 21) fg_BentWords_Lexicon_19 rfl rfl dX3_copyFrom_63 ?_
  refine bw_alenl (v := 48) rfl (by decide) dX3_copyFrom_66 ?_
  refine bw_copyl (k := 48) (f := (fun j => if j < 48 then (gw_l w 8 j) else (gw_l w 21 j))) rfl cc_BentWords_Lexicon_58 rfl rfl (by decide) (by decide) (by decide) (by decide) (Nat.le_of_ble_eq_true rfl) dX3_copyFrom_67 ?_
  refine bw_aload_n (i := 1) dX3_copyFrom_70 rfl rfl ?_
  refine bw_getr (r := 9) fg_BentWords_Lexicon_22 rfl rfl dX3_copyFrom_71 ?_
  refine bw_iconst (v := 0) dX3_copyFrom_74 (by decide) ?_
  refine bw_aload_n (i := 0) dX3_copyFrom_75 rfl rfl ?_
  refine bw_getr (r := 22) fg_BentWords_Lexicon_22 rfl rfl dX3_copyFrom_76 ?_
  refine bw_iconst (v := 0) dX3_copyFrom_79 (by decide) ?_
  refine bw_aload_n (i := 0) dX3_copyFrom_80 rfl rfl ?_
  refine bw_getr (r := 22) fg_BentWords_Lexicon_22 rfl rfl dX3_copyFrom_81 ?_
  refine bw_alenl (v := 24) rfl (by decide) dX3_copyFrom_84 ?_
  refine bw_copyl (k := 24) (f := (fun j => if j < 24 then (gw_l w 9 j) else (gw_l w 22 j))) rfl cc_BentWords_Lexicon_58 rfl rfl (by decide) (by decide) (by decide) (by decide) (Nat.le_of_ble_eq_true rfl) dX3_copyFrom_85 ?_
  refine bw_aload_n (i := 1) dX3_copyFrom_88 rfl rfl ?_
  refine bw_getr (r := 10) fg_BentWords_Lexicon_25 rfl rfl dX3_copyFrom_89 ?_
  refine bw_iconst (v := 0) dX3_copyFrom_92 (by decide) ?_
  refine bw_aload_n (i := 0) dX3_copyFrom_93 rfl rfl ?_
  refine bw_getr (r := 23) fg_BentWords_Lexicon_25 rfl rfl dX3_copyFrom_94 ?_
  refine bw_iconst (v := 0) dX3_copyFrom_97 (by decide) ?_
  refine bw_aload_n (i := 0) dX3_copyFrom_98 rfl rfl ?_
  refine bw_getr (r := 23) fg_BentWords_Lexicon_25 rfl rfl dX3_copyFrom_99 ?_
  refine bw_alenl (v := 24) rfl (by decide) dX3_copyFrom_102 ?_
  refine bw_copyl (k := 24) (f := (fun j => if j < 24 then (gw_l w 10 j) else (gw_l w 23 j))) rfl cc_BentWords_Lexicon_58 rfl rfl (by decide) (by decide) (by decide) (by decide) (Nat.le_of_ble_eq_true rfl) dX3_copyFrom_103 ?_
  refine bw_aload_n (i := 1) dX3_copyFrom_106 rfl rfl ?_
  refine bw_getr (r := 11) fg_BentWords_Lexicon_28 rfl rfl dX3_copyFrom_107 ?_
  refine bw_iconst (v := 0) dX3_copyFrom_110 (by decide) ?_
  refine bw_aload_n (i := 0) dX3_copyFrom_111 rfl rfl ?_
  refine bw_getr (r := 24) fg_BentWords_Lexicon_28 rfl rfl dX3_copyFrom_112 ?_
  refine bw_iconst (v := 0) dX3_copyFrom_115 (by decide) ?_
  refine bw_aload_n (i := 0) dX3_copyFrom_116 rfl rfl ?_
  refine bw_getr (r := 24) fg_BentWords_Lexicon_28 rfl rfl dX3_copyFrom_117 ?_
  refine bw_alenl (v := 4) rfl (by decide) dX3_copyFrom_120 ?_
  refine bw_copyl (k := 4) (f := (fun j => if j < 4 then (gw_l w 11 j) else (gw_l w 24 j))) rfl cc_BentWords_Lexicon_58 rfl rfl (by decide) (by decide) (by decide) (by decide) (Nat.le_of_ble_eq_true rfl) dX3_copyFrom_121 ?_
  refine bw_aload_n (i := 1) dX3_copyFrom_124 rfl rfl ?_
  refine bw_getr (r := 12) fg_BentWords_Lexicon_31 rfl rfl dX3_copyFrom_125 ?_
  refine bw_iconst (v := 0) dX3_copyFrom_128 (by decide) ?_
  refine bw_aload_n (i := 0) dX3_copyFrom_129 rfl rfl ?_
  refine bw_getr (r := 25) fg_BentWords_Lexicon_31 rfl rfl dX3_copyFrom_130 ?_
  refine bw_iconst (v := 0) dX3_copyFrom_133 (by decide) ?_
  refine bw_aload_n (i := 0) dX3_copyFrom_134 rfl rfl ?_
  refine bw_getr (r := 25) fg_BentWords_Lexicon_31 rfl rfl dX3_copyFrom_135 ?_
  refine bw_aleni (v := 4) rfl (by decide) dX3_copyFrom_138 ?_
  refine bw_copyi (k := 4) (f := (fun j => if j < 4 then (gw_i w 12 j) else (gw_i w 25 j))) rfl cc_BentWords_Lexicon_58 rfl rfl (by decide) (by decide) (by decide) (by decide) (Nat.le_of_ble_eq_true rfl) dX3_copyFrom_139 ?_
  refine bw_aload_n (i := 1) dX3_copyFrom_142 rfl rfl ?_
  refine bw_getr (r := 13) fg_BentWords_Lexicon_34 rfl rfl dX3_copyFrom_143 ?_
  refine bw_iconst (v := 0) dX3_copyFrom_146 (by decide) ?_
  refine bw_aload_n (i := 0) dX3_copyFrom_147 rfl rfl ?_
  refine bw_getr (r := 26) fg_BentWords_Lexicon_34 rfl rfl dX3_copyFrom_148 ?_
  refine bw_iconst (v := 0) dX3_copyFrom_151 (by decide) ?_
  refine bw_aload_n (i := 0) dX3_copyFrom_152 rfl rfl ?_
  refine bw_getr (r := 26) fg_BentWords_Lexicon_34 rfl rfl dX3_copyFrom_153 ?_
  refine bw_alenc (v := 32) rfl (by decide) dX3_copyFrom_156 ?_
  obtain ⟨hf1, h⟩ := h
  refine bw_copyc (k := 32) (f := (fun j => if j < 32 then (gw_i w 13 j) else (gw_i w 26 j))) rfl cc_BentWords_Lexicon_58 rfl rfl (by decide) (by decide) (by decide) (by decide) hf1 (Nat.le_of_ble_eq_true rfl) dX3_copyFrom_157 ?_
  refine bw_aload_n (i := 1) dX3_copyFrom_160 rfl rfl ?_
  refine bw_getr (r := 14) fg_BentWords_Lexicon_38 rfl rfl dX3_copyFrom_161 ?_
  refine bw_iconst (v := 0) dX3_copyFrom_164 (by decide) ?_
  refine bw_aload_n (i := 0) dX3_copyFrom_165 rfl rfl ?_
  refine bw_getr (r := 27) fg_BentWords_Lexicon_38 rfl rfl dX3_copyFrom_166 ?_
  refine bw_iconst (v := 0) dX3_copyFrom_169 (by decide) ?_
  refine bw_aload_n (i := 0) dX3_copyFrom_170 rfl rfl ?_
  refine bw_getr (r := 27) fg_BentWords_Lexicon_38 rfl rfl dX3_copyFrom_171 ?_
  refine bw_aleni (v := 32) rfl (by decide) dX3_copyFrom_174 ?_
  refine bw_copyi (k := 32) (f := (fun j => if j < 32 then (gw_i w 14 j) else (gw_i w 27 j))) rfl cc_BentWords_Lexicon_58 rfl rfl (by decide) (by decide) (by decide) (by decide) (Nat.le_of_ble_eq_true rfl) dX3_copyFrom_175 ?_
  refine bw_aload_n (i := 1) dX3_copyFrom_178 rfl rfl ?_
  refine bw_getr (r := 15) fg_BentWords_Lexicon_41 rfl rfl dX3_copyFrom_179 ?_
  refine bw_iconst (v := 0) dX3_copyFrom_182 (by decide) ?_
  refine bw_aload_n (i := 0) dX3_copyFrom_183 rfl rfl ?_
  refine bw_getr (r := 28) fg_BentWords_Lexicon_41 rfl rfl dX3_copyFrom_184 ?_
  refine bw_iconst (v := 0) dX3_copyFrom_187 (by decide) ?_
  refine bw_aload_n (i := 0) dX3_copyFrom_188 rfl rfl ?_
  refine bw_getr (r := 28) fg_BentWords_Lexicon_41 rfl rfl dX3_copyFrom_189 ?_
  refine bw_aleni (v := 32) rfl (by decide) dX3_copyFrom_192 ?_
  refine bw_copyi (k := 32) (f := (fun j => if j < 32 then (gw_i w 15 j) else (gw_i w 28 j))) rfl cc_BentWords_Lexicon_58 rfl rfl (by decide) (by decide) (by decide) (by decide) (Nat.le_of_ble_eq_true rfl) dX3_copyFrom_193 ?_
  refine bw_aload_n (i := 1) dX3_copyFrom_196 rfl rfl ?_
  refine bw_getr (r := 16) fg_BentWords_Lexicon_44 rfl rfl dX3_copyFrom_197 ?_
  refine bw_iconst (v := 0) dX3_copyFrom_200 (by decide) ?_
  refine bw_aload_n (i := 0) dX3_copyFrom_201 rfl rfl ?_
  refine bw_getr (r := 29) fg_BentWords_Lexicon_44 rfl rfl dX3_copyFrom_202 ?_
  refine bw_iconst (v := 0) dX3_copyFrom_205 (by decide) ?_
  refine bw_aload_n (i := 0) dX3_copyFrom_206 rfl rfl ?_
  refine bw_getr (r := 29) fg_BentWords_Lexicon_44 rfl rfl dX3_copyFrom_207 ?_
  refine bw_alenl (v := 32) rfl (by decide) dX3_copyFrom_210 ?_
  refine bw_copyl (k := 32) (f := (fun j => if j < 32 then (gw_l w 16 j) else (gw_l w 29 j))) rfl cc_BentWords_Lexicon_58 rfl rfl (by decide) (by decide) (by decide) (by decide) (Nat.le_of_ble_eq_true rfl) dX3_copyFrom_211 ?_
  exact bw_return dX3_copyFrom_214 rfl ⟨rfl, h⟩
theorem wfX3_boundWord {E : bw_E} {d : Nat} {w : bw_W} {Q : Int64 → bw_W → Prop} {ta : Nat} {a1 : Int32} {a2 : Int32} {a3 : Int32} (h_ta : bw_sh ta = (2, 24, 0)) (h : (∃ Q1 : Int32 → bw_W → Prop, bw_ri E (d + 0) mX3_boundSlot [.int a1, .int a2, .int a3] w Q1 ∧ ∀ v2 w3, Q1 v2 w3 →
(vp_in v2 24) ∧
(((gw_l w3 ta (v2.toNatClampNeg)) = 0 → (∃ Q5 : Int32 → bw_W → Prop, bw_ri E (d + 0) mX3_boundSlot [.int a1, .int a2, .int 0] w3 Q5 ∧ ∀ v6 w7, Q5 v6 w7 →
(vp_in v6 24) ∧
Q (gw_l w7 ta (v6.toNatClampNeg)) w7)) ∧ (¬ (gw_l w3 ta (v2.toNatClampNeg)) = 0 → Q (gw_l w3 ta (v2.toNatClampNeg)) w3)))) : bw_rl E (d + 1) mX3_boundWord [.ref ta, .int a1, .int a2, .int a3] w Q := by
  refine bw_enter rfl (Nat.le_of_ble_eq_true rfl) ?_
  refine bw_aload_n (i := 0) dX3_boundWord_0 rfl rfl ?_
  refine bw_iload_n (i := 1) dX3_boundWord_1 rfl rfl ?_
  refine bw_iload_n (i := 2) dX3_boundWord_2 rfl rfl ?_
  refine bw_iload_n (i := 3) dX3_boundWord_3 rfl rfl ?_
  obtain ⟨Q1, hr, h⟩ := h
  refine bw_cSi (As := [.int a1, .int a2, .int a3]) (st := [.ref ta]) cs_BentWords_Lexicon_64 hr rfl rfl (Nat.le_of_ble_eq_true rfl) dX3_boundWord_4 (fun v2 w3 hv => ?_)
  replace h := h v2 w3 hv
  clear hr
  obtain ⟨hi4, h⟩ := h
  refine bw_laload h_ta hi4 dX3_boundWord_7 ?_
  refine bw_lstore (i := 4) (L' := [some (.ref ta), some (.int a1), some (.int a2), some (.int a3), some (.long (gw_l w3 ta (v2.toNatClampNeg))), none]) dX3_boundWord_8 (Nat.le_of_ble_eq_true rfl) rfl ?_
  refine bw_lload dX3_boundWord_10 rfl ?_
  refine bw_lconst (v := 0) dX3_boundWord_12 rfl ?_
  refine bw_lcmp_eq (tgt := 22) dX3_boundWord_13 dX3_boundWord_14 (by decide) (fun c => ?_) (fun c => ?_)
  · replace h := h.1 (c)
    refine bw_aload_n (i := 0) dX3_boundWord_22 rfl rfl ?_
    refine bw_iload_n (i := 1) dX3_boundWord_23 rfl rfl ?_
    refine bw_iload_n (i := 2) dX3_boundWord_24 rfl rfl ?_
    refine bw_iconst (v := 0) dX3_boundWord_25 (by decide) ?_
    obtain ⟨Q5, hr, h⟩ := h
    refine bw_cSi (As := [.int a1, .int a2, .int 0]) (st := [.ref ta]) cs_BentWords_Lexicon_64 hr rfl rfl (Nat.le_of_ble_eq_true rfl) dX3_boundWord_26 (fun v6 w7 hv => ?_)
    replace h := h v6 w7 hv
    clear hr
    obtain ⟨hi8, h⟩ := h
    refine bw_laload h_ta hi8 dX3_boundWord_29 ?_
    exact bw_lreturn dX3_boundWord_30 rfl ⟨_, rfl, h⟩
  · replace h := h.2 (c)
    refine bw_lload dX3_boundWord_17 rfl ?_
    refine bw_goto (tgt := 30) dX3_boundWord_19 (by decide) ?_
    exact bw_lreturn dX3_boundWord_30 rfl ⟨_, rfl, h⟩
theorem wfX3_casesAskedBy_12 {E : bw_E} {d : Nat} {w : bw_W} {Q : Int32 → bw_W → Prop} {l1 : Int32} {l2 : Int32} {l3 : Int32} {l4 : Int32} {l5 : Int32}  (h : (vp_in l1 4) ∧
(((l4 + (gw_i w 25 (l1.toNatClampNeg))) ≤ l5 → Q l3 w) ∧ (¬ ((l4 + (gw_i w 25 (l1.toNatClampNeg))) ≤ l5) → (∃ Q2 : Bool → bw_W → Prop, bw_rb E (d + 0) mX3_asksForm [.ref 18, .int l5] w Q2 ∧ ∀ v3 w4, Q2 v3 w4 →
((v3 = false → bw_G E (d + 1) mX3_casesAskedBy 12 [some (.ref 18), some (.int l1), some (.int l2), some (.int l3), some (.int l4), some (.int (l5 + 1))] [] w4 (bw_qi Q)) ∧ (v3 = true → (vp_in l5 32) ∧
((((l2 >>> ((gw_i w4 27 (l5.toNatClampNeg)) &&& 31)) &&& 1) = 0 → bw_G E (d + 1) mX3_casesAskedBy 12 [some (.ref 18), some (.int l1), some (.int l2), some (.int l3), some (.int l4), some (.int (l5 + 1))] [] w4 (bw_qi Q)) ∧ (¬ (((l2 >>> ((gw_i w4 27 (l5.toNatClampNeg)) &&& 31)) &&& 1) = 0) → (vp_in l5 32) ∧
bw_G E (d + 1) mX3_casesAskedBy 12 [some (.ref 18), some (.int l1), some (.int l2), some (.int (l3 ||| ((1 : Int32) <<< ((gw_i w4 28 (l5.toNatClampNeg)) &&& 31)))), some (.int l4), some (.int (l5 + 1))] [] w4 (bw_qi Q))))))))) : bw_G E (d + 1) mX3_casesAskedBy 12 [some (.ref 18), some (.int l1), some (.int l2), some (.int l3), some (.int l4), some (.int l5)] [] w (bw_qi Q) := by
  refine bw_iload dX3_casesAskedBy_12 rfl ?_
  refine bw_iload dX3_casesAskedBy_14 rfl ?_
  refine bw_aload_n (i := 0) dX3_casesAskedBy_16 rfl rfl ?_
  refine bw_getr (r := 25) fg_BentWords_Lexicon_31 rfl rfl dX3_casesAskedBy_17 ?_
  refine bw_iload_n (i := 1) dX3_casesAskedBy_20 rfl rfl ?_
  obtain ⟨hi1, h⟩ := h
  refine bw_iaload rfl hi1 dX3_casesAskedBy_21 ?_
  refine bw_iadd dX3_casesAskedBy_22 ?_
  refine bw_icmp_ge (tgt := 67) dX3_casesAskedBy_23 (by decide) (fun c => ?_) (fun c => ?_)
  · replace h := h.1 (c)
    refine bw_iload_n (i := 3) dX3_casesAskedBy_67 rfl rfl ?_
    exact bw_ireturn dX3_casesAskedBy_68 rfl rfl ⟨_, rfl, h⟩
  · replace h := h.2 (c)
    refine bw_aload_n (i := 0) dX3_casesAskedBy_26 rfl rfl ?_
    refine bw_iload dX3_casesAskedBy_27 rfl ?_
    obtain ⟨Q2, hr, h⟩ := h
    refine bw_cVb (As := [.int l5]) (st := []) cv_BentWords_Lexicon_68 rfl rfl hr rfl rfl (Nat.le_of_ble_eq_true rfl) dX3_casesAskedBy_29 (fun v3 w4 hv => ?_)
    replace h := h v3 w4 hv
    clear hr
    refine bw_ifb_eq (tgt := 61) dX3_casesAskedBy_32 (by decide) (fun c => ?_) (fun c => ?_)
    · replace h := h.1 (c)
      refine bw_iinc (i := 5) (x := l5) (v := (l5 + 1)) (L' := [some (.ref 18), some (.int l1), some (.int l2), some (.int l3), some (.int l4), some (.int (l5 + 1))]) dX3_casesAskedBy_61 rfl rfl (Nat.le_of_ble_eq_true rfl) rfl ?_
      refine bw_goto (tgt := 12) dX3_casesAskedBy_64 (by decide) ?_
      exact h
    · replace h := h.2 (c)
      refine bw_iload_n (i := 2) dX3_casesAskedBy_35 rfl rfl ?_
      refine bw_aload_n (i := 0) dX3_casesAskedBy_36 rfl rfl ?_
      refine bw_getr (r := 27) fg_BentWords_Lexicon_38 rfl rfl dX3_casesAskedBy_37 ?_
      refine bw_iload dX3_casesAskedBy_40 rfl ?_
      obtain ⟨hi5, h⟩ := h
      refine bw_iaload rfl hi5 dX3_casesAskedBy_42 ?_
      refine bw_ishr dX3_casesAskedBy_43 ?_
      refine bw_iconst (v := 1) dX3_casesAskedBy_44 (by decide) ?_
      refine bw_iand dX3_casesAskedBy_45 ?_
      refine bw_if_eq (tgt := 61) dX3_casesAskedBy_46 (by decide) (fun c => ?_) (fun c => ?_)
      · replace h := h.1 (c)
        refine bw_iinc (i := 5) (x := l5) (v := (l5 + 1)) (L' := [some (.ref 18), some (.int l1), some (.int l2), some (.int l3), some (.int l4), some (.int (l5 + 1))]) dX3_casesAskedBy_61 rfl rfl (Nat.le_of_ble_eq_true rfl) rfl ?_
        refine bw_goto (tgt := 12) dX3_casesAskedBy_64 (by decide) ?_
        exact h
      · replace h := h.2 (c)
        refine bw_iload_n (i := 3) dX3_casesAskedBy_49 rfl rfl ?_
        refine bw_iconst (v := 1) dX3_casesAskedBy_50 (by decide) ?_
        refine bw_aload_n (i := 0) dX3_casesAskedBy_51 rfl rfl ?_
        refine bw_getr (r := 28) fg_BentWords_Lexicon_41 rfl rfl dX3_casesAskedBy_52 ?_
        refine bw_iload dX3_casesAskedBy_55 rfl ?_
        obtain ⟨hi6, h⟩ := h
        refine bw_iaload rfl hi6 dX3_casesAskedBy_57 ?_
        refine bw_ishl dX3_casesAskedBy_58 ?_
        refine bw_ior dX3_casesAskedBy_59 ?_
        refine bw_istore_n (i := 3) (L' := [some (.ref 18), some (.int l1), some (.int l2), some (.int (l3 ||| ((1 : Int32) <<< ((gw_i w4 28 (l5.toNatClampNeg)) &&& 31)))), some (.int l4), some (.int l5)]) dX3_casesAskedBy_60 rfl (Nat.le_of_ble_eq_true rfl) rfl ?_
        refine bw_iinc (i := 5) (x := l5) (v := (l5 + 1)) (L' := [some (.ref 18), some (.int l1), some (.int l2), some (.int (l3 ||| ((1 : Int32) <<< ((gw_i w4 28 (l5.toNatClampNeg)) &&& 31)))), some (.int l4), some (.int (l5 + 1))]) dX3_casesAskedBy_61 rfl rfl (Nat.le_of_ble_eq_true rfl) rfl ?_
        refine bw_goto (tgt := 12) dX3_casesAskedBy_64 (by decide) ?_
        exact h
theorem wfX3_casesAskedBy {E : bw_E} {d : Nat} {w : bw_W} {Q : Int32 → bw_W → Prop} {a0 : Int32} {a1 : Int32}  (h : bw_G E (d + 1) mX3_casesAskedBy 12 [some (.ref 18), some (.int a0), some (.int a1), some (.int 0), some (.int (a0 * 8)), some (.int (a0 * 8))] [] w (bw_qi Q)) : bw_ri E (d + 1) mX3_casesAskedBy [.ref 18, .int a0, .int a1] w Q := by
  refine bw_enter rfl (Nat.le_of_ble_eq_true rfl) ?_
  refine bw_iconst (v := 0) dX3_casesAskedBy_0 (by decide) ?_
  refine bw_istore_n (i := 3) (L' := [some (.ref 18), some (.int a0), some (.int a1), some (.int 0), none, none]) dX3_casesAskedBy_1 rfl (Nat.le_of_ble_eq_true rfl) rfl ?_
  refine bw_iload_n (i := 1) dX3_casesAskedBy_2 rfl rfl ?_
  refine bw_bipush (v := 8) dX3_casesAskedBy_3 (by decide) ?_
  refine bw_imul dX3_casesAskedBy_5 ?_
  refine bw_istore (i := 4) (L' := [some (.ref 18), some (.int a0), some (.int a1), some (.int 0), some (.int (a0 * 8)), none]) dX3_casesAskedBy_6 (Nat.le_of_ble_eq_true rfl) rfl ?_
  refine bw_iload dX3_casesAskedBy_8 rfl ?_
  refine bw_istore (i := 5) (L' := [some (.ref 18), some (.int a0), some (.int a1), some (.int 0), some (.int (a0 * 8)), some (.int (a0 * 8))]) dX3_casesAskedBy_10 (Nat.le_of_ble_eq_true rfl) rfl ?_
  exact h
theorem wfX7_beginWith_18 {E : bw_E} {d : Nat} {w : bw_W} {Q : bw_W → Prop} {l2 : Int32}  (h : ((52 ≤ l2 → Q w) ∧ (¬ (52 ≤ l2) → (vp_in l2 52) ∧
bw_G E (d + 1) mX7_beginWith 18 [some (.ref 31), some (.ref 18), some (.int (l2 + 1))] [] (sw_l w 32 (l2.toNatClampNeg) 0) (bw_qv Q)))) : bw_G E (d + 1) mX7_beginWith 18 [some (.ref 31), some (.ref 18), some (.int l2)] [] w (bw_qv Q) := by
  refine bw_iload_n (i := 2) dX7_beginWith_18 rfl rfl ?_
  refine bw_aload_n (i := 0) dX7_beginWith_19 rfl rfl ?_
  refine bw_getr (r := 32) fg_BentWords_State_11 rfl rfl dX7_beginWith_20 ?_
  refine bw_alenl (v := 52) rfl (by decide) dX7_beginWith_23 ?_
  refine bw_icmp_ge (tgt := 40) dX7_beginWith_24 (by decide) (fun c => ?_) (fun c => ?_)
  · replace h := h.1 (c)
    exact bw_return dX7_beginWith_40 rfl ⟨rfl, h⟩
  · replace h := h.2 (c)
    refine bw_aload_n (i := 0) dX7_beginWith_27 rfl rfl ?_
    refine bw_getr (r := 32) fg_BentWords_State_11 rfl rfl dX7_beginWith_28 ?_
    refine bw_iload_n (i := 2) dX7_beginWith_31 rfl rfl ?_
    refine bw_lconst (v := 0) dX7_beginWith_32 rfl ?_
    obtain ⟨hi1, h⟩ := h
    refine bw_lastore rfl hi1 dX7_beginWith_33 ?_
    refine bw_iinc (i := 2) (x := l2) (v := (l2 + 1)) (L' := [some (.ref 31), some (.ref 18), some (.int (l2 + 1))]) dX7_beginWith_34 rfl rfl (Nat.le_of_ble_eq_true rfl) rfl ?_
    refine bw_goto (tgt := 18) dX7_beginWith_37 (by decide) ?_
    exact h
theorem wfX7_beginWith {E : bw_E} {d : Nat} {w : bw_W} {Q : bw_W → Prop}   (h : bw_G E (d + 1) mX7_beginWith 18 [some (.ref 31), some (.ref 18), some (.int 48)] [] (cw_l w 32 (fun j => if j < 48 then (gw_l w 21 j) else (gw_l w 32 j))) (bw_qv Q)) : bw_rv E (d + 1) mX7_beginWith [.ref 31, .ref 18] w Q := by
  refine bw_enter rfl (Nat.le_of_ble_eq_true rfl) ?_
  refine bw_aload_n (i := 1) dX7_beginWith_0 rfl rfl ?_
  refine bw_getr (r := 21) fg_BentWords_State_15 rfl rfl dX7_beginWith_1 ?_
  refine bw_iconst (v := 0) dX7_beginWith_4 (by decide) ?_
  refine bw_aload_n (i := 0) dX7_beginWith_5 rfl rfl ?_
  refine bw_getr (r := 32) fg_BentWords_State_11 rfl rfl dX7_beginWith_6 ?_
  refine bw_iconst (v := 0) dX7_beginWith_9 (by decide) ?_
  refine bw_bipush (v := 48) dX7_beginWith_10 (by decide) ?_
  refine bw_copyl (k := 48) (f := (fun j => if j < 48 then (gw_l w 21 j) else (gw_l w 32 j))) rfl cc_BentWords_State_20 rfl rfl (by decide) (by decide) (by decide) (by decide) (Nat.le_of_ble_eq_true rfl) dX7_beginWith_12 ?_
  refine bw_bipush (v := 48) dX7_beginWith_15 (by decide) ?_
  refine bw_istore_n (i := 2) (L' := [some (.ref 31), some (.ref 18), some (.int 48)]) dX7_beginWith_17 rfl (Nat.le_of_ble_eq_true rfl) rfl ?_
  exact h
theorem wfX7_copyFrom_as {E : bw_E} {d : Nat} {w : bw_W} {Q : bw_W → Prop}   (h : Q (cw_l w 34 (fun j => if j < 52 then (gw_l w 32 j) else (gw_l w 34 j)))) : bw_rv E (d + 1) mX7_copyFrom [.ref 33, .ref 31] w Q := by
  refine bw_enter rfl (Nat.le_of_ble_eq_true rfl) ?_
  refine bw_aload_n (i := 1) dX7_copyFrom_0 rfl rfl ?_
  refine bw_getr (r := 32) fg_BentWords_State_11 rfl rfl dX7_copyFrom_1 ?_
  refine bw_iconst (v := 0) dX7_copyFrom_4 (by decide) ?_
  refine bw_aload_n (i := 0) dX7_copyFrom_5 rfl rfl ?_
  refine bw_getr (r := 34) fg_BentWords_State_11 rfl rfl dX7_copyFrom_6 ?_
  refine bw_iconst (v := 0) dX7_copyFrom_9 (by decide) ?_
  refine bw_aload_n (i := 0) dX7_copyFrom_10 rfl rfl ?_
  refine bw_getr (r := 34) fg_BentWords_State_11 rfl rfl dX7_copyFrom_11 ?_
  refine bw_alenl (v := 52) rfl (by decide) dX7_copyFrom_14 ?_
  refine bw_copyl (k := 52) (f := (fun j => if j < 52 then (gw_l w 32 j) else (gw_l w 34 j))) rfl cc_BentWords_State_20 rfl rfl (by decide) (by decide) (by decide) (by decide) (Nat.le_of_ble_eq_true rfl) dX7_copyFrom_15 ?_
  exact bw_return dX7_copyFrom_18 rfl ⟨rfl, h⟩
theorem wfX7_copyFrom_sa {E : bw_E} {d : Nat} {w : bw_W} {Q : bw_W → Prop}   (h : Q (cw_l w 32 (fun j => if j < 52 then (gw_l w 34 j) else (gw_l w 32 j)))) : bw_rv E (d + 1) mX7_copyFrom [.ref 31, .ref 33] w Q := by
  refine bw_enter rfl (Nat.le_of_ble_eq_true rfl) ?_
  refine bw_aload_n (i := 1) dX7_copyFrom_0 rfl rfl ?_
  refine bw_getr (r := 34) fg_BentWords_State_11 rfl rfl dX7_copyFrom_1 ?_
  refine bw_iconst (v := 0) dX7_copyFrom_4 (by decide) ?_
  refine bw_aload_n (i := 0) dX7_copyFrom_5 rfl rfl ?_
  refine bw_getr (r := 32) fg_BentWords_State_11 rfl rfl dX7_copyFrom_6 ?_
  refine bw_iconst (v := 0) dX7_copyFrom_9 (by decide) ?_
  refine bw_aload_n (i := 0) dX7_copyFrom_10 rfl rfl ?_
  refine bw_getr (r := 32) fg_BentWords_State_11 rfl rfl dX7_copyFrom_11 ?_
  refine bw_alenl (v := 52) rfl (by decide) dX7_copyFrom_14 ?_
  refine bw_copyl (k := 52) (f := (fun j => if j < 52 then (gw_l w 34 j) else (gw_l w 32 j))) rfl cc_BentWords_State_20 rfl rfl (by decide) (by decide) (by decide) (by decide) (Nat.le_of_ble_eq_true rfl) dX7_copyFrom_15 ?_
  exact bw_return dX7_copyFrom_18 rfl ⟨rfl, h⟩
theorem wfX7_copyFrom_im {E : bw_E} {d : Nat} {w : bw_W} {Q : bw_W → Prop}   (h : Q (cw_l w 42 (fun j => if j < 52 then (gw_l w 32 j) else (gw_l w 42 j)))) : bw_rv E (d + 1) mX7_copyFrom [.ref 41, .ref 31] w Q := by
  refine bw_enter rfl (Nat.le_of_ble_eq_true rfl) ?_
  refine bw_aload_n (i := 1) dX7_copyFrom_0 rfl rfl ?_
  refine bw_getr (r := 32) fg_BentWords_State_11 rfl rfl dX7_copyFrom_1 ?_
  refine bw_iconst (v := 0) dX7_copyFrom_4 (by decide) ?_
  refine bw_aload_n (i := 0) dX7_copyFrom_5 rfl rfl ?_
  refine bw_getr (r := 42) fg_BentWords_State_11 rfl rfl dX7_copyFrom_6 ?_
  refine bw_iconst (v := 0) dX7_copyFrom_9 (by decide) ?_
  refine bw_aload_n (i := 0) dX7_copyFrom_10 rfl rfl ?_
  refine bw_getr (r := 42) fg_BentWords_State_11 rfl rfl dX7_copyFrom_11 ?_
  refine bw_alenl (v := 52) rfl (by decide) dX7_copyFrom_14 ?_
  refine bw_copyl (k := 52) (f := (fun j => if j < 52 then (gw_l w 32 j) else (gw_l w 42 j))) rfl cc_BentWords_State_20 rfl rfl (by decide) (by decide) (by decide) (by decide) (Nat.le_of_ble_eq_true rfl) dX7_copyFrom_15 ?_
  exact bw_return dX7_copyFrom_18 rfl ⟨rfl, h⟩
theorem wfX7_copyFrom_bk {E : bw_E} {d : Nat} {w : bw_W} {Q : bw_W → Prop}   (h : Q (cw_l w 32 (fun j => if j < 52 then (gw_l w 42 j) else (gw_l w 32 j)))) : bw_rv E (d + 1) mX7_copyFrom [.ref 31, .ref 41] w Q := by
  refine bw_enter rfl (Nat.le_of_ble_eq_true rfl) ?_
  refine bw_aload_n (i := 1) dX7_copyFrom_0 rfl rfl ?_
  refine bw_getr (r := 42) fg_BentWords_State_11 rfl rfl dX7_copyFrom_1 ?_
  refine bw_iconst (v := 0) dX7_copyFrom_4 (by decide) ?_
  refine bw_aload_n (i := 0) dX7_copyFrom_5 rfl rfl ?_
  refine bw_getr (r := 32) fg_BentWords_State_11 rfl rfl dX7_copyFrom_6 ?_
  refine bw_iconst (v := 0) dX7_copyFrom_9 (by decide) ?_
  refine bw_aload_n (i := 0) dX7_copyFrom_10 rfl rfl ?_
  refine bw_getr (r := 32) fg_BentWords_State_11 rfl rfl dX7_copyFrom_11 ?_
  refine bw_alenl (v := 52) rfl (by decide) dX7_copyFrom_14 ?_
  refine bw_copyl (k := 52) (f := (fun j => if j < 52 then (gw_l w 42 j) else (gw_l w 32 j))) rfl cc_BentWords_State_20 rfl rfl (by decide) (by decide) (by decide) (by decide) (Nat.le_of_ble_eq_true rfl) dX7_copyFrom_15 ?_
  exact bw_return dX7_copyFrom_18 rfl ⟨rfl, h⟩
theorem wfX8_cell {E : bw_E} {d : Nat} {w : bw_W} {Q : Int32 → bw_W → Prop} {sp : Nat} (h_sp : bw_sh sp = (0, 8, 5)) (h : (((gw_i w sp 0) = 0 → Q (48 + (gw_i w sp 1)) w) ∧ ((gw_i w sp 0) = 1 → Q (48 + (gw_i w sp 1)) w) ∧ ((gw_i w sp 0) = 2 → Q 51 w) ∧ ((gw_i w sp 0).toInt < 0 ∨ 2 < (gw_i w sp 0).toInt → (∃ Q1 : Int32 → bw_W → Prop, bw_ri E (d + 0) mX7_formCell [.int (gw_i w sp 1), .int (gw_i w sp 2), .int (gw_i w sp 3)] w Q1 ∧ ∀ v2 w3, Q1 v2 w3 →
Q v2 w3)))) : bw_ri E (d + 1) mX8_cell [.ref sp] w Q := by
  refine bw_enter rfl (Nat.le_of_ble_eq_true rfl) ?_
  refine bw_aload_n (i := 0) dX8_cell_0 rfl rfl ?_
  refine bw_geti fg_BentWords_Step_9 h_sp dX8_cell_1 ?_
  refine bw_tabsw dX8_cell_4 [32, 32, 40] 43 (by decide) rfl rfl (fun j hj hx => ?_) (fun hx => ?_)
  · match j, hj, hx with
    | 0, _, hx =>
      replace h := h.1 (bw_ti hx (by decide))
      refine bw_bipush (v := 48) dX8_cell_32 (by decide) ?_
      refine bw_aload_n (i := 0) dX8_cell_34 rfl rfl ?_
      refine bw_geti fg_BentWords_Step_15 h_sp dX8_cell_35 ?_
      refine bw_iadd dX8_cell_38 ?_
      exact bw_ireturn dX8_cell_39 rfl rfl ⟨_, rfl, h⟩
    | 1, _, hx =>
      replace h := h.2.1 (bw_ti hx (by decide))
      refine bw_bipush (v := 48) dX8_cell_32 (by decide) ?_
      refine bw_aload_n (i := 0) dX8_cell_34 rfl rfl ?_
      refine bw_geti fg_BentWords_Step_15 h_sp dX8_cell_35 ?_
      refine bw_iadd dX8_cell_38 ?_
      exact bw_ireturn dX8_cell_39 rfl rfl ⟨_, rfl, h⟩
    | 2, _, hx =>
      replace h := h.2.2.1 (bw_ti hx (by decide))
      refine bw_bipush (v := 51) dX8_cell_40 (by decide) ?_
      exact bw_ireturn dX8_cell_42 rfl rfl ⟨_, rfl, h⟩
    | j + 3, hj, _ => exact absurd hj (by simp)
  · replace h := h.2.2.2 hx
    refine bw_aload_n (i := 0) dX8_cell_43 rfl rfl ?_
    refine bw_geti fg_BentWords_Step_15 h_sp dX8_cell_44 ?_
    refine bw_aload_n (i := 0) dX8_cell_47 rfl rfl ?_
    refine bw_geti fg_BentWords_Step_18 h_sp dX8_cell_48 ?_
    refine bw_aload_n (i := 0) dX8_cell_51 rfl rfl ?_
    refine bw_geti fg_BentWords_Step_21 h_sp dX8_cell_52 ?_
    obtain ⟨Q1, hr, h⟩ := h
    refine bw_cSi (As := [.int (gw_i w sp 1), .int (gw_i w sp 2), .int (gw_i w sp 3)]) (st := []) cs_BentWords_Step_30 hr rfl rfl (Nat.le_of_ble_eq_true rfl) dX8_cell_55 (fun v2 w3 hv => ?_)
    replace h := h v2 w3 hv
    clear hr
    exact bw_ireturn dX8_cell_58 rfl rfl ⟨_, rfl, h⟩
theorem wfX8_value {E : bw_E} {d : Nat} {w : bw_W} {Q : Int64 → bw_W → Prop} {sp : Nat} (h_sp : bw_sh sp = (0, 8, 5)) (h : (((gw_i w sp 0) = 0 → (∃ Q1 : Int64 → bw_W → Prop, bw_rl E (d + 0) mX7_filling [.int (gw_i w sp 2), .int (gw_i w sp 3)] w Q1 ∧ ∀ v2 w3, Q1 v2 w3 →
Q v2 w3)) ∧ ((gw_i w sp 0) = 1 → Q 0 w) ∧ ((gw_i w sp 0) = 2 → Q ((gw_i w sp 1).toInt64) w) ∧ ((gw_i w sp 0) = 3 → Q (gw_l w sp 4) w) ∧ ((gw_i w sp 0).toInt < 0 ∨ 3 < (gw_i w sp 0).toInt → Q 0 w))) : bw_rl E (d + 1) mX8_value [.ref sp] w Q := by
  refine bw_enter rfl (Nat.le_of_ble_eq_true rfl) ?_
  refine bw_aload_n (i := 0) dX8_value_0 rfl rfl ?_
  refine bw_geti fg_BentWords_Step_9 h_sp dX8_value_1 ?_
  refine bw_tabsw dX8_value_4 [36, 59, 48, 54] 59 (by decide) rfl rfl (fun j hj hx => ?_) (fun hx => ?_)
  · match j, hj, hx with
    | 0, _, hx =>
      replace h := h.1 (bw_ti hx (by decide))
      refine bw_aload_n (i := 0) dX8_value_36 rfl rfl ?_
      refine bw_geti fg_BentWords_Step_18 h_sp dX8_value_37 ?_
      refine bw_aload_n (i := 0) dX8_value_40 rfl rfl ?_
      refine bw_geti fg_BentWords_Step_21 h_sp dX8_value_41 ?_
      obtain ⟨Q1, hr, h⟩ := h
      refine bw_cSl (As := [.int (gw_i w sp 2), .int (gw_i w sp 3)]) (st := []) cs_BentWords_Step_34 hr rfl rfl (Nat.le_of_ble_eq_true rfl) dX8_value_44 (fun v2 w3 hv => ?_)
      replace h := h v2 w3 hv
      clear hr
      exact bw_lreturn dX8_value_47 rfl ⟨_, rfl, h⟩
    | 1, _, hx =>
      replace h := h.2.1 (bw_ti hx (by decide))
      refine bw_lconst (v := 0) dX8_value_59 rfl ?_
      exact bw_lreturn dX8_value_60 rfl ⟨_, rfl, h⟩
    | 2, _, hx =>
      replace h := h.2.2.1 (bw_ti hx (by decide))
      refine bw_aload_n (i := 0) dX8_value_48 rfl rfl ?_
      refine bw_geti fg_BentWords_Step_15 h_sp dX8_value_49 ?_
      refine bw_i2l dX8_value_52 ?_
      exact bw_lreturn dX8_value_53 rfl ⟨_, rfl, h⟩
    | 3, _, hx =>
      replace h := h.2.2.2.1 (bw_ti hx (by decide))
      refine bw_aload_n (i := 0) dX8_value_54 rfl rfl ?_
      refine bw_getl fg_BentWords_Step_24 h_sp dX8_value_55 ?_
      exact bw_lreturn dX8_value_58 rfl ⟨_, rfl, h⟩
    | j + 4, hj, _ => exact absurd hj (by simp)
  · replace h := h.2.2.2.2 hx
    refine bw_lconst (v := 0) dX8_value_59 rfl ?_
    exact bw_lreturn dX8_value_60 rfl ⟨_, rfl, h⟩
theorem wfX10_formOf {E : bw_E} {d : Nat} {w : bw_W} {Q : Int64 → bw_W → Prop} {a0 : Int32} {a1 : Int32} {a2 : Int32}  (h : (∃ Q1 : Int32 → bw_W → Prop, bw_ri E (d + 0) mX7_defaultOf [.ref 31, .int a0, .int a1, .int a2] w Q1 ∧ ∀ v2 w3, Q1 v2 w3 →
((v2 = 0 → (∃ Q4 : Int32 → bw_W → Prop, bw_ri E (d + 0) mX7_formCell [.int a0, .int a1, .int a2] w3 Q4 ∧ ∀ v5 w6, Q4 v5 w6 →
(vp_in v5 52) ∧
Q (gw_l w6 32 (v5.toNatClampNeg)) w6)) ∧ (v2 = 1 → (∃ Q8 : Int32 → bw_W → Prop, bw_ri E (d + 0) mX7_formCell [.int a0, .int 0, .int a2] w3 Q8 ∧ ∀ v9 w10, Q8 v9 w10 →
(vp_in v9 52) ∧
Q (gw_l w10 32 (v9.toNatClampNeg)) w10)) ∧ (v2 = 2 → (∃ Q12 : Int32 → bw_W → Prop, bw_ri E (d + 0) mX7_formCell [.int a0, .int a1, .int 0] w3 Q12 ∧ ∀ v13 w14, Q12 v13 w14 →
(vp_in v13 52) ∧
Q (gw_l w14 32 (v13.toNatClampNeg)) w14)) ∧ (v2 = 3 → (∃ Q16 : Int32 → bw_W → Prop, bw_ri E (d + 0) mX7_formCell [.int a0, .int 0, .int 0] w3 Q16 ∧ ∀ v17 w18, Q16 v17 w18 →
(vp_in v17 52) ∧
Q (gw_l w18 32 (v17.toNatClampNeg)) w18)) ∧ (v2.toInt < 0 ∨ 3 < v2.toInt → (vp_in a0 6) ∧
Q (gw_l w3 19 (a0.toNatClampNeg)) w3)))) : bw_rl E (d + 1) mX10_formOf [.ref 35, .int a0, .int a1, .int a2] w Q := by
  refine bw_enter rfl (Nat.le_of_ble_eq_true rfl) ?_
  refine bw_aload_n (i := 0) dX10_formOf_0 rfl rfl ?_
  refine bw_getr (r := 31) fg_BentWords_Teller_15 rfl rfl dX10_formOf_1 ?_
  refine bw_iload_n (i := 1) dX10_formOf_4 rfl rfl ?_
  refine bw_iload_n (i := 2) dX10_formOf_5 rfl rfl ?_
  refine bw_iload_n (i := 3) dX10_formOf_6 rfl rfl ?_
  obtain ⟨Q1, hr, h⟩ := h
  refine bw_cVi (As := [.int a0, .int a1, .int a2]) (st := []) cv_BentWords_Teller_23 rfl rfl hr rfl rfl (Nat.le_of_ble_eq_true rfl) dX10_formOf_7 (fun v2 w3 hv => ?_)
  replace h := h v2 w3 hv
  clear hr
  refine bw_tabsw dX10_formOf_10 [40, 55, 70, 85] 100 (by decide) rfl rfl (fun j hj hx => ?_) (fun hx => ?_)
  · match j, hj, hx with
    | 0, _, hx =>
      replace h := h.1 (bw_ti hx (by decide))
      refine bw_aload_n (i := 0) dX10_formOf_40 rfl rfl ?_
      refine bw_getr (r := 31) fg_BentWords_Teller_15 rfl rfl dX10_formOf_41 ?_
      refine bw_getr (r := 32) fg_BentWords_Teller_29 rfl rfl dX10_formOf_44 ?_
      refine bw_iload_n (i := 1) dX10_formOf_47 rfl rfl ?_
      refine bw_iload_n (i := 2) dX10_formOf_48 rfl rfl ?_
      refine bw_iload_n (i := 3) dX10_formOf_49 rfl rfl ?_
      obtain ⟨Q4, hr, h⟩ := h
      refine bw_cSi (As := [.int a0, .int a1, .int a2]) (st := [.ref 32]) cs_BentWords_Teller_33 hr rfl rfl (Nat.le_of_ble_eq_true rfl) dX10_formOf_50 (fun v5 w6 hv => ?_)
      replace h := h v5 w6 hv
      clear hr
      obtain ⟨hi7, h⟩ := h
      refine bw_laload rfl hi7 dX10_formOf_53 ?_
      exact bw_lreturn dX10_formOf_54 rfl ⟨_, rfl, h⟩
    | 1, _, hx =>
      replace h := h.2.1 (bw_ti hx (by decide))
      refine bw_aload_n (i := 0) dX10_formOf_55 rfl rfl ?_
      refine bw_getr (r := 31) fg_BentWords_Teller_15 rfl rfl dX10_formOf_56 ?_
      refine bw_getr (r := 32) fg_BentWords_Teller_29 rfl rfl dX10_formOf_59 ?_
      refine bw_iload_n (i := 1) dX10_formOf_62 rfl rfl ?_
      refine bw_iconst (v := 0) dX10_formOf_63 (by decide) ?_
      refine bw_iload_n (i := 3) dX10_formOf_64 rfl rfl ?_
      obtain ⟨Q8, hr, h⟩ := h
      refine bw_cSi (As := [.int a0, .int 0, .int a2]) (st := [.ref 32]) cs_BentWords_Teller_33 hr rfl rfl (Nat.le_of_ble_eq_true rfl) dX10_formOf_65 (fun v9 w10 hv => ?_)
      replace h := h v9 w10 hv
      clear hr
      obtain ⟨hi11, h⟩ := h
      refine bw_laload rfl hi11 dX10_formOf_68 ?_
      exact bw_lreturn dX10_formOf_69 rfl ⟨_, rfl, h⟩
    | 2, _, hx =>
      replace h := h.2.2.1 (bw_ti hx (by decide))
      refine bw_aload_n (i := 0) dX10_formOf_70 rfl rfl ?_
      refine bw_getr (r := 31) fg_BentWords_Teller_15 rfl rfl dX10_formOf_71 ?_
      refine bw_getr (r := 32) fg_BentWords_Teller_29 rfl rfl dX10_formOf_74 ?_
      refine bw_iload_n (i := 1) dX10_formOf_77 rfl rfl ?_
      refine bw_iload_n (i := 2) dX10_formOf_78 rfl rfl ?_
      refine bw_iconst (v := 0) dX10_formOf_79 (by decide) ?_
      obtain ⟨Q12, hr, h⟩ := h
      refine bw_cSi (As := [.int a0, .int a1, .int 0]) (st := [.ref 32]) cs_BentWords_Teller_33 hr rfl rfl (Nat.le_of_ble_eq_true rfl) dX10_formOf_80 (fun v13 w14 hv => ?_)
      replace h := h v13 w14 hv
      clear hr
      obtain ⟨hi15, h⟩ := h
      refine bw_laload rfl hi15 dX10_formOf_83 ?_
      exact bw_lreturn dX10_formOf_84 rfl ⟨_, rfl, h⟩
    | 3, _, hx =>
      replace h := h.2.2.2.1 (bw_ti hx (by decide))
      refine bw_aload_n (i := 0) dX10_formOf_85 rfl rfl ?_
      refine bw_getr (r := 31) fg_BentWords_Teller_15 rfl rfl dX10_formOf_86 ?_
      refine bw_getr (r := 32) fg_BentWords_Teller_29 rfl rfl dX10_formOf_89 ?_
      refine bw_iload_n (i := 1) dX10_formOf_92 rfl rfl ?_
      refine bw_iconst (v := 0) dX10_formOf_93 (by decide) ?_
      refine bw_iconst (v := 0) dX10_formOf_94 (by decide) ?_
      obtain ⟨Q16, hr, h⟩ := h
      refine bw_cSi (As := [.int a0, .int 0, .int 0]) (st := [.ref 32]) cs_BentWords_Teller_33 hr rfl rfl (Nat.le_of_ble_eq_true rfl) dX10_formOf_95 (fun v17 w18 hv => ?_)
      replace h := h v17 w18 hv
      clear hr
      obtain ⟨hi19, h⟩ := h
      refine bw_laload rfl hi19 dX10_formOf_98 ?_
      exact bw_lreturn dX10_formOf_99 rfl ⟨_, rfl, h⟩
    | j + 4, hj, _ => exact absurd hj (by simp)
  · replace h := h.2.2.2.2 hx
    refine bw_aload_n (i := 0) dX10_formOf_100 rfl rfl ?_
    refine bw_getr (r := 18) fg_BentWords_Teller_9 rfl rfl dX10_formOf_101 ?_
    refine bw_getr (r := 19) fg_BentWords_Teller_36 rfl rfl dX10_formOf_104 ?_
    refine bw_iload_n (i := 1) dX10_formOf_107 rfl rfl ?_
    obtain ⟨hi20, h⟩ := h
    refine bw_laload rfl hi20 dX10_formOf_108 ?_
    exact bw_lreturn dX10_formOf_109 rfl ⟨_, rfl, h⟩
theorem wfX10_agree {E : bw_E} {d : Nat} {w : bw_W} {Q : Bool → bw_W → Prop} {a0 : Int32} {a1 : Int32} {a2 : Int32}  (h : (∃ Q1 : Bool → bw_W → Prop, bw_rb E (d + 0) mX7_isOpen [.ref 31, .int a2] w Q1 ∧ ∀ v2 w3, Q1 v2 w3 →
((v2 = false → ((¬ a0 = 61 → (∃ Q4 : Int32 → bw_W → Prop, bw_ri E (d + 0) mX7_nounIn [.ref 31, .int a1] w3 Q4 ∧ ∀ v5 w6, Q4 v5 w6 →
(vp_in v5 6) ∧
(∃ Q8 : Int32 → bw_W → Prop, bw_ri E (d + 0) mX7_nounIn [.ref 31, .int a2] w6 Q8 ∧ ∀ v9 w10, Q8 v9 w10 →
(vp_in v9 6) ∧
(((gw_i w6 20 (v5.toNatClampNeg)) = (gw_i w10 20 (v9.toNatClampNeg)) → Q true w10) ∧ (¬ ((gw_i w6 20 (v5.toNatClampNeg)) = (gw_i w10 20 (v9.toNatClampNeg))) → (∃ Q12 : Bool → bw_W → Prop, bw_rb E (d + 0) mX10_refuse [.ref 35, .int a2, .int 3] w10 Q12 ∧ ∀ v13 w14, Q12 v13 w14 →
((v13 = false → Q false w14) ∧ (v13 = true → Q true w14)))))))) ∧ (a0 = 61 → (∃ Q15 : Int32 → bw_W → Prop, bw_ri E (d + 0) mX7_numberIn [.ref 31, .int a1] w3 Q15 ∧ ∀ v16 w17, Q15 v16 w17 →
(∃ Q18 : Int32 → bw_W → Prop, bw_ri E (d + 0) mX7_numberIn [.ref 31, .int a2] w17 Q18 ∧ ∀ v19 w20, Q18 v19 w20 →
((v16 = v19 → Q true w20) ∧ (¬ (v16 = v19) → (∃ Q21 : Bool → bw_W → Prop, bw_rb E (d + 0) mX10_refuse [.ref 35, .int a2, .int 2] w20 Q21 ∧ ∀ v22 w23, Q21 v22 w23 →
((v22 = false → Q false w23) ∧ (v22 = true → Q true w23)))))))))) ∧ (v2 = true → (∃ Q24 : Bool → bw_W → Prop, bw_rb E (d + 0) mX10_refuse [.ref 35, .int a2, .int 0] w3 Q24 ∧ ∀ v25 w26, Q24 v25 w26 →
Q v25 w26))))) : bw_rb E (d + 1) mX10_agree [.ref 35, .int a0, .int a1, .int a2] w Q := by
  refine bw_enter rfl (Nat.le_of_ble_eq_true rfl) ?_
  refine bw_aload_n (i := 0) dX10_agree_0 rfl rfl ?_
  refine bw_getr (r := 31) fg_BentWords_Teller_15 rfl rfl dX10_agree_1 ?_
  refine bw_iload_n (i := 3) dX10_agree_4 rfl rfl ?_
  obtain ⟨Q1, hr, h⟩ := h
  refine bw_cVb (As := [.int a2]) (st := []) cv_BentWords_Teller_75 rfl rfl hr rfl rfl (Nat.le_of_ble_eq_true rfl) dX10_agree_5 (fun v2 w3 hv => ?_)
  replace h := h v2 w3 hv
  clear hr
  refine bw_ifb_eq (tgt := 18) dX10_agree_8 (by decide) (fun c => ?_) (fun c => ?_)
  · replace h := h.1 (c)
    refine bw_iload_n (i := 1) dX10_agree_18 rfl rfl ?_
    refine bw_bipush (v := 61) dX10_agree_19 (by decide) ?_
    refine bw_icmp_ne (tgt := 58) dX10_agree_21 (by decide) (fun c => ?_) (fun c => ?_)
    · replace h := h.1 (c)
      refine bw_aload_n (i := 0) dX10_agree_58 rfl rfl ?_
      refine bw_getr (r := 18) fg_BentWords_Teller_9 rfl rfl dX10_agree_59 ?_
      refine bw_getr (r := 20) fg_BentWords_Teller_100 rfl rfl dX10_agree_62 ?_
      refine bw_aload_n (i := 0) dX10_agree_65 rfl rfl ?_
      refine bw_getr (r := 31) fg_BentWords_Teller_15 rfl rfl dX10_agree_66 ?_
      refine bw_iload_n (i := 2) dX10_agree_69 rfl rfl ?_
      obtain ⟨Q4, hr, h⟩ := h
      refine bw_cVi (As := [.int a1]) (st := [.ref 20]) cv_BentWords_Teller_103 rfl rfl hr rfl rfl (Nat.le_of_ble_eq_true rfl) dX10_agree_70 (fun v5 w6 hv => ?_)
      replace h := h v5 w6 hv
      clear hr
      obtain ⟨hi7, h⟩ := h
      refine bw_iaload rfl hi7 dX10_agree_73 ?_
      refine bw_istore (i := 4) (L' := [some (.ref 35), some (.int a0), some (.int a1), some (.int a2), some (.int (gw_i w6 20 (v5.toNatClampNeg))), none]) dX10_agree_74 (Nat.le_of_ble_eq_true rfl) rfl ?_
      refine bw_aload_n (i := 0) dX10_agree_76 rfl rfl ?_
      refine bw_getr (r := 18) fg_BentWords_Teller_9 rfl rfl dX10_agree_77 ?_
      refine bw_getr (r := 20) fg_BentWords_Teller_100 rfl rfl dX10_agree_80 ?_
      refine bw_aload_n (i := 0) dX10_agree_83 rfl rfl ?_
      refine bw_getr (r := 31) fg_BentWords_Teller_15 rfl rfl dX10_agree_84 ?_
      refine bw_iload_n (i := 3) dX10_agree_87 rfl rfl ?_
      obtain ⟨Q8, hr, h⟩ := h
      refine bw_cVi (As := [.int a2]) (st := [.ref 20]) cv_BentWords_Teller_103 rfl rfl hr rfl rfl (Nat.le_of_ble_eq_true rfl) dX10_agree_88 (fun v9 w10 hv => ?_)
      replace h := h v9 w10 hv
      clear hr
      obtain ⟨hi11, h⟩ := h
      refine bw_iaload rfl hi11 dX10_agree_91 ?_
      refine bw_istore (i := 5) (L' := [some (.ref 35), some (.int a0), some (.int a1), some (.int a2), some (.int (gw_i w6 20 (v5.toNatClampNeg))), some (.int (gw_i w10 20 (v9.toNatClampNeg)))]) dX10_agree_92 (Nat.le_of_ble_eq_true rfl) rfl ?_
      refine bw_iload dX10_agree_94 rfl ?_
      refine bw_iload dX10_agree_96 rfl ?_
      refine bw_icmp_eq (tgt := 110) dX10_agree_98 (by decide) (fun c => ?_) (fun c => ?_)
      · replace h := h.1 (c)
        refine bw_iconst (v := 1) dX10_agree_110 (by decide) ?_
        refine bw_goto (tgt := 115) dX10_agree_111 (by decide) ?_
        exact bw_ireturn dX10_agree_115 rfl (bw_nb true) ⟨true, rfl, h⟩
      · replace h := h.2 (c)
        refine bw_aload_n (i := 0) dX10_agree_101 rfl rfl ?_
        refine bw_iload_n (i := 3) dX10_agree_102 rfl rfl ?_
        refine bw_iconst (v := 3) dX10_agree_103 (by decide) ?_
        obtain ⟨Q12, hr, h⟩ := h
        refine bw_cVb (As := [.int a2, .int 3]) (st := []) cv_BentWords_Teller_78 rfl rfl hr rfl rfl (Nat.le_of_ble_eq_true rfl) dX10_agree_104 (fun v13 w14 hv => ?_)
        replace h := h v13 w14 hv
        clear hr
        refine bw_ifb_eq (tgt := 114) dX10_agree_107 (by decide) (fun c => ?_) (fun c => ?_)
        · replace h := h.1 (c)
          refine bw_iconst (v := 0) dX10_agree_114 (by decide) ?_
          exact bw_ireturn dX10_agree_115 rfl (bw_nb false) ⟨false, rfl, h⟩
        · replace h := h.2 (c)
          refine bw_iconst (v := 1) dX10_agree_110 (by decide) ?_
          refine bw_goto (tgt := 115) dX10_agree_111 (by decide) ?_
          exact bw_ireturn dX10_agree_115 rfl (bw_nb true) ⟨true, rfl, h⟩
    · replace h := h.2 (c)
      refine bw_aload_n (i := 0) dX10_agree_24 rfl rfl ?_
      refine bw_getr (r := 31) fg_BentWords_Teller_15 rfl rfl dX10_agree_25 ?_
      refine bw_iload_n (i := 2) dX10_agree_28 rfl rfl ?_
      obtain ⟨Q15, hr, h⟩ := h
      refine bw_cVi (As := [.int a1]) (st := []) cv_BentWords_Teller_96 rfl rfl hr rfl rfl (Nat.le_of_ble_eq_true rfl) dX10_agree_29 (fun v16 w17 hv => ?_)
      replace h := h v16 w17 hv
      clear hr
      refine bw_aload_n (i := 0) dX10_agree_32 rfl rfl ?_
      refine bw_getr (r := 31) fg_BentWords_Teller_15 rfl rfl dX10_agree_33 ?_
      refine bw_iload_n (i := 3) dX10_agree_36 rfl rfl ?_
      obtain ⟨Q18, hr, h⟩ := h
      refine bw_cVi (As := [.int a2]) (st := [.int v16]) cv_BentWords_Teller_96 rfl rfl hr rfl rfl (Nat.le_of_ble_eq_true rfl) dX10_agree_37 (fun v19 w20 hv => ?_)
      replace h := h v19 w20 hv
      clear hr
      refine bw_icmp_eq (tgt := 52) dX10_agree_40 (by decide) (fun c => ?_) (fun c => ?_)
      · replace h := h.1 (c)
        refine bw_iconst (v := 1) dX10_agree_52 (by decide) ?_
        refine bw_goto (tgt := 57) dX10_agree_53 (by decide) ?_
        exact bw_ireturn dX10_agree_57 rfl (bw_nb true) ⟨true, rfl, h⟩
      · replace h := h.2 (c)
        refine bw_aload_n (i := 0) dX10_agree_43 rfl rfl ?_
        refine bw_iload_n (i := 3) dX10_agree_44 rfl rfl ?_
        refine bw_iconst (v := 2) dX10_agree_45 (by decide) ?_
        obtain ⟨Q21, hr, h⟩ := h
        refine bw_cVb (As := [.int a2, .int 2]) (st := []) cv_BentWords_Teller_78 rfl rfl hr rfl rfl (Nat.le_of_ble_eq_true rfl) dX10_agree_46 (fun v22 w23 hv => ?_)
        replace h := h v22 w23 hv
        clear hr
        refine bw_ifb_eq (tgt := 56) dX10_agree_49 (by decide) (fun c => ?_) (fun c => ?_)
        · replace h := h.1 (c)
          refine bw_iconst (v := 0) dX10_agree_56 (by decide) ?_
          exact bw_ireturn dX10_agree_57 rfl (bw_nb false) ⟨false, rfl, h⟩
        · replace h := h.2 (c)
          refine bw_iconst (v := 1) dX10_agree_52 (by decide) ?_
          refine bw_goto (tgt := 57) dX10_agree_53 (by decide) ?_
          exact bw_ireturn dX10_agree_57 rfl (bw_nb true) ⟨true, rfl, h⟩
  · replace h := h.2 (c)
    refine bw_aload_n (i := 0) dX10_agree_11 rfl rfl ?_
    refine bw_iload_n (i := 3) dX10_agree_12 rfl rfl ?_
    refine bw_iconst (v := 0) dX10_agree_13 (by decide) ?_
    obtain ⟨Q24, hr, h⟩ := h
    refine bw_cVb (As := [.int a2, .int 0]) (st := []) cv_BentWords_Teller_78 rfl rfl hr rfl rfl (Nat.le_of_ble_eq_true rfl) dX10_agree_14 (fun v25 w26 hv => ?_)
    replace h := h v25 w26 hv
    clear hr
    exact bw_ireturn dX10_agree_17 rfl (bw_nb _) ⟨_, rfl, h⟩
theorem wfX10_isAllTold {E : bw_E} {d : Nat} {w : bw_W} {Q : Bool → bw_W → Prop} {a0 : Int32}  (h : (vp_in a0 32) ∧
(vp_in a0 32) ∧
(∃ Q3 : Int32 → bw_W → Prop, bw_ri E (d + 0) mX7_nounIn [.ref 31, .int (gw_i w 27 (a0.toNatClampNeg))] w Q3 ∧ ∀ v4 w5, Q3 v4 w5 →
(vp_in a0 32) ∧
(∃ Q7 : Int32 → bw_W → Prop, bw_ri E (d + 0) mX7_numberIn [.ref 31, .int (gw_i w 27 (a0.toNatClampNeg))] w5 Q7 ∧ ∀ v8 w9, Q7 v8 w9 →
((¬ (gw_i w 26 (a0.toNatClampNeg)) = 37 → (vp_in v4 6) ∧
(∃ Q11 : Int32 → bw_W → Prop, bw_ri E (d + 0) mX3_boundSlot [.int (gw_i w5 28 (a0.toNatClampNeg)), .int v8, .int (gw_i w9 20 (v4.toNatClampNeg))] w9 Q11 ∧ ∀ v12 w13, Q11 v12 w13 →
(vp_in v12 24) ∧
(((gw_i w 26 (a0.toNatClampNeg)) = 35 → (((gw_i w 26 (a0.toNatClampNeg)) = 37 → Q true w13) ∧ (¬ ((gw_i w 26 (a0.toNatClampNeg)) = 37) → (∃ Q15 : Int32 → bw_W → Prop, bw_ri E (d + 0) mX7_defaultOf [.ref 31, .int v4, .int (gw_i w5 28 (a0.toNatClampNeg)), .int v8] w13 Q15 ∧ ∀ v16 w17, Q15 v16 w17 →
((v16 = 0 → Q true w17) ∧ (¬ (v16 = 0) → (∃ Q18 : Bool → bw_W → Prop, bw_rb E (d + 0) mX10_refuse [.ref 35, .int (gw_i w 27 (a0.toNatClampNeg)), .int 1] w17 Q18 ∧ ∀ v19 w20, Q18 v19 w20 →
((v19 = false → Q false w20) ∧ (v19 = true → Q true w20))))))))) ∧ (¬ ((gw_i w 26 (a0.toNatClampNeg)) = 35) → ((¬ (gw_l w13 22 (v12.toNatClampNeg)) = 0 → (((gw_i w 26 (a0.toNatClampNeg)) = 37 → Q true w13) ∧ (¬ ((gw_i w 26 (a0.toNatClampNeg)) = 37) → (∃ Q21 : Int32 → bw_W → Prop, bw_ri E (d + 0) mX7_defaultOf [.ref 31, .int v4, .int (gw_i w5 28 (a0.toNatClampNeg)), .int v8] w13 Q21 ∧ ∀ v22 w23, Q21 v22 w23 →
((v22 = 0 → Q true w23) ∧ (¬ (v22 = 0) → (∃ Q24 : Bool → bw_W → Prop, bw_rb E (d + 0) mX10_refuse [.ref 35, .int (gw_i w 27 (a0.toNatClampNeg)), .int 1] w23 Q24 ∧ ∀ v25 w26, Q24 v25 w26 →
((v25 = false → Q false w26) ∧ (v25 = true → Q true w26))))))))) ∧ ((gw_l w13 22 (v12.toNatClampNeg)) = 0 → (∃ Q27 : Bool → bw_W → Prop, bw_rb E (d + 0) mX10_refuse [.ref 35, .int (gw_i w 27 (a0.toNatClampNeg)), .int 4] w13 Q27 ∧ ∀ v28 w29, Q27 v28 w29 →
Q v28 w29))))))) ∧ ((gw_i w 26 (a0.toNatClampNeg)) = 37 → (vp_in v4 6) ∧
(∃ Q31 : Int32 → bw_W → Prop, bw_ri E (d + 0) mX3_boundSlot [.int (gw_i w5 28 (a0.toNatClampNeg)), .int v8, .int (gw_i w9 20 (v4.toNatClampNeg))] w9 Q31 ∧ ∀ v32 w33, Q31 v32 w33 →
(vp_in v32 24) ∧
(((gw_i w 26 (a0.toNatClampNeg)) = 35 → (((gw_i w 26 (a0.toNatClampNeg)) = 37 → Q true w33) ∧ (¬ ((gw_i w 26 (a0.toNatClampNeg)) = 37) → (∃ Q35 : Int32 → bw_W → Prop, bw_ri E (d + 0) mX7_defaultOf [.ref 31, .int v4, .int (gw_i w5 28 (a0.toNatClampNeg)), .int v8] w33 Q35 ∧ ∀ v36 w37, Q35 v36 w37 →
((v36 = 0 → Q true w37) ∧ (¬ (v36 = 0) → (∃ Q38 : Bool → bw_W → Prop, bw_rb E (d + 0) mX10_refuse [.ref 35, .int (gw_i w 27 (a0.toNatClampNeg)), .int 1] w37 Q38 ∧ ∀ v39 w40, Q38 v39 w40 →
((v39 = false → Q false w40) ∧ (v39 = true → Q true w40))))))))) ∧ (¬ ((gw_i w 26 (a0.toNatClampNeg)) = 35) → ((¬ (gw_l w33 23 (v32.toNatClampNeg)) = 0 → (((gw_i w 26 (a0.toNatClampNeg)) = 37 → Q true w33) ∧ (¬ ((gw_i w 26 (a0.toNatClampNeg)) = 37) → (∃ Q41 : Int32 → bw_W → Prop, bw_ri E (d + 0) mX7_defaultOf [.ref 31, .int v4, .int (gw_i w5 28 (a0.toNatClampNeg)), .int v8] w33 Q41 ∧ ∀ v42 w43, Q41 v42 w43 →
((v42 = 0 → Q true w43) ∧ (¬ (v42 = 0) → (∃ Q44 : Bool → bw_W → Prop, bw_rb E (d + 0) mX10_refuse [.ref 35, .int (gw_i w 27 (a0.toNatClampNeg)), .int 1] w43 Q44 ∧ ∀ v45 w46, Q44 v45 w46 →
((v45 = false → Q false w46) ∧ (v45 = true → Q true w46))))))))) ∧ ((gw_l w33 23 (v32.toNatClampNeg)) = 0 → (∃ Q47 : Bool → bw_W → Prop, bw_rb E (d + 0) mX10_refuse [.ref 35, .int (gw_i w 27 (a0.toNatClampNeg)), .int 4] w33 Q47 ∧ ∀ v48 w49, Q47 v48 w49 →
Q v48 w49))))))))))) : bw_rb E (d + 1) mX10_isAllTold [.ref 35, .int a0] w Q := by
  refine bw_enter rfl (Nat.le_of_ble_eq_true rfl) ?_
  refine bw_aload_n (i := 0) dX10_isAllTold_0 rfl rfl ?_
  refine bw_getr (r := 18) fg_BentWords_Teller_9 rfl rfl dX10_isAllTold_1 ?_
  refine bw_getr (r := 26) fg_BentWords_Teller_69 rfl rfl dX10_isAllTold_4 ?_
  refine bw_iload_n (i := 1) dX10_isAllTold_7 rfl rfl ?_
  obtain ⟨hi1, h⟩ := h
  refine bw_caload rfl hi1 dX10_isAllTold_8 ?_
  refine bw_istore_n (i := 2) (L' := [some (.ref 35), some (.int a0), some (.int (gw_i w 26 (a0.toNatClampNeg))), none, none, none, none, none, none, none]) dX10_isAllTold_9 rfl (Nat.le_of_ble_eq_true rfl) rfl ?_
  refine bw_aload_n (i := 0) dX10_isAllTold_10 rfl rfl ?_
  refine bw_getr (r := 18) fg_BentWords_Teller_9 rfl rfl dX10_isAllTold_11 ?_
  refine bw_getr (r := 27) fg_BentWords_Teller_72 rfl rfl dX10_isAllTold_14 ?_
  refine bw_iload_n (i := 1) dX10_isAllTold_17 rfl rfl ?_
  obtain ⟨hi2, h⟩ := h
  refine bw_iaload rfl hi2 dX10_isAllTold_18 ?_
  refine bw_istore_n (i := 3) (L' := [some (.ref 35), some (.int a0), some (.int (gw_i w 26 (a0.toNatClampNeg))), some (.int (gw_i w 27 (a0.toNatClampNeg))), none, none, none, none, none, none]) dX10_isAllTold_19 rfl (Nat.le_of_ble_eq_true rfl) rfl ?_
  refine bw_aload_n (i := 0) dX10_isAllTold_20 rfl rfl ?_
  refine bw_getr (r := 31) fg_BentWords_Teller_15 rfl rfl dX10_isAllTold_21 ?_
  refine bw_iload_n (i := 3) dX10_isAllTold_24 rfl rfl ?_
  obtain ⟨Q3, hr, h⟩ := h
  refine bw_cVi (As := [.int (gw_i w 27 (a0.toNatClampNeg))]) (st := []) cv_BentWords_Teller_103 rfl rfl hr rfl rfl (Nat.le_of_ble_eq_true rfl) dX10_isAllTold_25 (fun v4 w5 hv => ?_)
  replace h := h v4 w5 hv
  clear hr
  refine bw_istore (i := 4) (L' := [some (.ref 35), some (.int a0), some (.int (gw_i w 26 (a0.toNatClampNeg))), some (.int (gw_i w 27 (a0.toNatClampNeg))), some (.int v4), none, none, none, none, none]) dX10_isAllTold_28 (Nat.le_of_ble_eq_true rfl) rfl ?_
  refine bw_aload_n (i := 0) dX10_isAllTold_30 rfl rfl ?_
  refine bw_getr (r := 18) fg_BentWords_Teller_9 rfl rfl dX10_isAllTold_31 ?_
  refine bw_getr (r := 28) fg_BentWords_Teller_82 rfl rfl dX10_isAllTold_34 ?_
  refine bw_iload_n (i := 1) dX10_isAllTold_37 rfl rfl ?_
  obtain ⟨hi6, h⟩ := h
  refine bw_iaload rfl hi6 dX10_isAllTold_38 ?_
  refine bw_istore (i := 5) (L' := [some (.ref 35), some (.int a0), some (.int (gw_i w 26 (a0.toNatClampNeg))), some (.int (gw_i w 27 (a0.toNatClampNeg))), some (.int v4), some (.int (gw_i w5 28 (a0.toNatClampNeg))), none, none, none, none]) dX10_isAllTold_39 (Nat.le_of_ble_eq_true rfl) rfl ?_
  refine bw_aload_n (i := 0) dX10_isAllTold_41 rfl rfl ?_
  refine bw_getr (r := 31) fg_BentWords_Teller_15 rfl rfl dX10_isAllTold_42 ?_
  refine bw_iload_n (i := 3) dX10_isAllTold_45 rfl rfl ?_
  obtain ⟨Q7, hr, h⟩ := h
  refine bw_cVi (As := [.int (gw_i w 27 (a0.toNatClampNeg))]) (st := []) cv_BentWords_Teller_96 rfl rfl hr rfl rfl (Nat.le_of_ble_eq_true rfl) dX10_isAllTold_46 (fun v8 w9 hv => ?_)
  replace h := h v8 w9 hv
  clear hr
  refine bw_istore (i := 6) (L' := [some (.ref 35), some (.int a0), some (.int (gw_i w 26 (a0.toNatClampNeg))), some (.int (gw_i w 27 (a0.toNatClampNeg))), some (.int v4), some (.int (gw_i w5 28 (a0.toNatClampNeg))), some (.int v8), none, none, none]) dX10_isAllTold_49 (Nat.le_of_ble_eq_true rfl) rfl ?_
  refine bw_iload_n (i := 2) dX10_isAllTold_51 rfl rfl ?_
  refine bw_bipush (v := 37) dX10_isAllTold_52 (by decide) ?_
  refine bw_icmp_ne (tgt := 67) dX10_isAllTold_54 (by decide) (fun c => ?_) (fun c => ?_)
  · replace h := h.1 (c)
    refine bw_aload_n (i := 0) dX10_isAllTold_67 rfl rfl ?_
    refine bw_getr (r := 18) fg_BentWords_Teller_9 rfl rfl dX10_isAllTold_68 ?_
    refine bw_getr (r := 22) fg_BentWords_Teller_109 rfl rfl dX10_isAllTold_71 ?_
    refine bw_astore (i := 7) (L' := [some (.ref 35), some (.int a0), some (.int (gw_i w 26 (a0.toNatClampNeg))), some (.int (gw_i w 27 (a0.toNatClampNeg))), some (.int v4), some (.int (gw_i w5 28 (a0.toNatClampNeg))), some (.int v8), some (.ref 22), none, none]) dX10_isAllTold_74 (Nat.le_of_ble_eq_true rfl) rfl ?_
    refine bw_aload dX10_isAllTold_76 rfl ?_
    refine bw_iload dX10_isAllTold_78 rfl ?_
    refine bw_iload dX10_isAllTold_80 rfl ?_
    refine bw_aload_n (i := 0) dX10_isAllTold_82 rfl rfl ?_
    refine bw_getr (r := 18) fg_BentWords_Teller_9 rfl rfl dX10_isAllTold_83 ?_
    refine bw_getr (r := 20) fg_BentWords_Teller_100 rfl rfl dX10_isAllTold_86 ?_
    refine bw_iload dX10_isAllTold_89 rfl ?_
    obtain ⟨hi10, h⟩ := h
    refine bw_iaload rfl hi10 dX10_isAllTold_91 ?_
    obtain ⟨Q11, hr, h⟩ := h
    refine bw_cSi (As := [.int (gw_i w5 28 (a0.toNatClampNeg)), .int v8, .int (gw_i w9 20 (v4.toNatClampNeg))]) (st := [.ref 22]) cs_BentWords_Teller_112 hr rfl rfl (Nat.le_of_ble_eq_true rfl) dX10_isAllTold_92 (fun v12 w13 hv => ?_)
    replace h := h v12 w13 hv
    clear hr
    obtain ⟨hi14, h⟩ := h
    refine bw_laload rfl hi14 dX10_isAllTold_95 ?_
    refine bw_lstore (i := 8) (L' := [some (.ref 35), some (.int a0), some (.int (gw_i w 26 (a0.toNatClampNeg))), some (.int (gw_i w 27 (a0.toNatClampNeg))), some (.int v4), some (.int (gw_i w5 28 (a0.toNatClampNeg))), some (.int v8), some (.ref 22), some (.long (gw_l w13 22 (v12.toNatClampNeg))), none]) dX10_isAllTold_96 (Nat.le_of_ble_eq_true rfl) rfl ?_
    refine bw_iload_n (i := 2) dX10_isAllTold_98 rfl rfl ?_
    refine bw_bipush (v := 35) dX10_isAllTold_99 (by decide) ?_
    refine bw_icmp_eq (tgt := 118) dX10_isAllTold_101 (by decide) (fun c => ?_) (fun c => ?_)
    · replace h := h.1 (c)
      refine bw_iload_n (i := 2) dX10_isAllTold_118 rfl rfl ?_
      refine bw_bipush (v := 37) dX10_isAllTold_119 (by decide) ?_
      refine bw_icmp_eq (tgt := 149) dX10_isAllTold_121 (by decide) (fun c => ?_) (fun c => ?_)
      · replace h := h.1 (c)
        refine bw_iconst (v := 1) dX10_isAllTold_149 (by decide) ?_
        refine bw_goto (tgt := 154) dX10_isAllTold_150 (by decide) ?_
        exact bw_ireturn dX10_isAllTold_154 rfl (bw_nb true) ⟨true, rfl, h⟩
      · replace h := h.2 (c)
        refine bw_aload_n (i := 0) dX10_isAllTold_124 rfl rfl ?_
        refine bw_getr (r := 31) fg_BentWords_Teller_15 rfl rfl dX10_isAllTold_125 ?_
        refine bw_iload dX10_isAllTold_128 rfl ?_
        refine bw_iload dX10_isAllTold_130 rfl ?_
        refine bw_iload dX10_isAllTold_132 rfl ?_
        obtain ⟨Q15, hr, h⟩ := h
        refine bw_cVi (As := [.int v4, .int (gw_i w5 28 (a0.toNatClampNeg)), .int v8]) (st := []) cv_BentWords_Teller_23 rfl rfl hr rfl rfl (Nat.le_of_ble_eq_true rfl) dX10_isAllTold_134 (fun v16 w17 hv => ?_)
        replace h := h v16 w17 hv
        clear hr
        refine bw_if_eq (tgt := 149) dX10_isAllTold_137 (by decide) (fun c => ?_) (fun c => ?_)
        · replace h := h.1 (c)
          refine bw_iconst (v := 1) dX10_isAllTold_149 (by decide) ?_
          refine bw_goto (tgt := 154) dX10_isAllTold_150 (by decide) ?_
          exact bw_ireturn dX10_isAllTold_154 rfl (bw_nb true) ⟨true, rfl, h⟩
        · replace h := h.2 (c)
          refine bw_aload_n (i := 0) dX10_isAllTold_140 rfl rfl ?_
          refine bw_iload_n (i := 3) dX10_isAllTold_141 rfl rfl ?_
          refine bw_iconst (v := 1) dX10_isAllTold_142 (by decide) ?_
          obtain ⟨Q18, hr, h⟩ := h
          refine bw_cVb (As := [.int (gw_i w 27 (a0.toNatClampNeg)), .int 1]) (st := []) cv_BentWords_Teller_78 rfl rfl hr rfl rfl (Nat.le_of_ble_eq_true rfl) dX10_isAllTold_143 (fun v19 w20 hv => ?_)
          replace h := h v19 w20 hv
          clear hr
          refine bw_ifb_eq (tgt := 153) dX10_isAllTold_146 (by decide) (fun c => ?_) (fun c => ?_)
          · replace h := h.1 (c)
            refine bw_iconst (v := 0) dX10_isAllTold_153 (by decide) ?_
            exact bw_ireturn dX10_isAllTold_154 rfl (bw_nb false) ⟨false, rfl, h⟩
          · replace h := h.2 (c)
            refine bw_iconst (v := 1) dX10_isAllTold_149 (by decide) ?_
            refine bw_goto (tgt := 154) dX10_isAllTold_150 (by decide) ?_
            exact bw_ireturn dX10_isAllTold_154 rfl (bw_nb true) ⟨true, rfl, h⟩
    · replace h := h.2 (c)
      refine bw_lload dX10_isAllTold_104 rfl ?_
      refine bw_lconst (v := 0) dX10_isAllTold_106 rfl ?_
      refine bw_lcmp_ne (tgt := 118) dX10_isAllTold_107 dX10_isAllTold_108 (by decide) (fun c => ?_) (fun c => ?_)
      · replace h := h.1 (c)
        refine bw_iload_n (i := 2) dX10_isAllTold_118 rfl rfl ?_
        refine bw_bipush (v := 37) dX10_isAllTold_119 (by decide) ?_
        refine bw_icmp_eq (tgt := 149) dX10_isAllTold_121 (by decide) (fun c => ?_) (fun c => ?_)
        · replace h := h.1 (c)
          refine bw_iconst (v := 1) dX10_isAllTold_149 (by decide) ?_
          refine bw_goto (tgt := 154) dX10_isAllTold_150 (by decide) ?_
          exact bw_ireturn dX10_isAllTold_154 rfl (bw_nb true) ⟨true, rfl, h⟩
        · replace h := h.2 (c)
          refine bw_aload_n (i := 0) dX10_isAllTold_124 rfl rfl ?_
          refine bw_getr (r := 31) fg_BentWords_Teller_15 rfl rfl dX10_isAllTold_125 ?_
          refine bw_iload dX10_isAllTold_128 rfl ?_
          refine bw_iload dX10_isAllTold_130 rfl ?_
          refine bw_iload dX10_isAllTold_132 rfl ?_
          obtain ⟨Q21, hr, h⟩ := h
          refine bw_cVi (As := [.int v4, .int (gw_i w5 28 (a0.toNatClampNeg)), .int v8]) (st := []) cv_BentWords_Teller_23 rfl rfl hr rfl rfl (Nat.le_of_ble_eq_true rfl) dX10_isAllTold_134 (fun v22 w23 hv => ?_)
          replace h := h v22 w23 hv
          clear hr
          refine bw_if_eq (tgt := 149) dX10_isAllTold_137 (by decide) (fun c => ?_) (fun c => ?_)
          · replace h := h.1 (c)
            refine bw_iconst (v := 1) dX10_isAllTold_149 (by decide) ?_
            refine bw_goto (tgt := 154) dX10_isAllTold_150 (by decide) ?_
            exact bw_ireturn dX10_isAllTold_154 rfl (bw_nb true) ⟨true, rfl, h⟩
          · replace h := h.2 (c)
            refine bw_aload_n (i := 0) dX10_isAllTold_140 rfl rfl ?_
            refine bw_iload_n (i := 3) dX10_isAllTold_141 rfl rfl ?_
            refine bw_iconst (v := 1) dX10_isAllTold_142 (by decide) ?_
            obtain ⟨Q24, hr, h⟩ := h
            refine bw_cVb (As := [.int (gw_i w 27 (a0.toNatClampNeg)), .int 1]) (st := []) cv_BentWords_Teller_78 rfl rfl hr rfl rfl (Nat.le_of_ble_eq_true rfl) dX10_isAllTold_143 (fun v25 w26 hv => ?_)
            replace h := h v25 w26 hv
            clear hr
            refine bw_ifb_eq (tgt := 153) dX10_isAllTold_146 (by decide) (fun c => ?_) (fun c => ?_)
            · replace h := h.1 (c)
              refine bw_iconst (v := 0) dX10_isAllTold_153 (by decide) ?_
              exact bw_ireturn dX10_isAllTold_154 rfl (bw_nb false) ⟨false, rfl, h⟩
            · replace h := h.2 (c)
              refine bw_iconst (v := 1) dX10_isAllTold_149 (by decide) ?_
              refine bw_goto (tgt := 154) dX10_isAllTold_150 (by decide) ?_
              exact bw_ireturn dX10_isAllTold_154 rfl (bw_nb true) ⟨true, rfl, h⟩
      · replace h := h.2 (c)
        refine bw_aload_n (i := 0) dX10_isAllTold_111 rfl rfl ?_
        refine bw_iload_n (i := 3) dX10_isAllTold_112 rfl rfl ?_
        refine bw_iconst (v := 4) dX10_isAllTold_113 (by decide) ?_
        obtain ⟨Q27, hr, h⟩ := h
        refine bw_cVb (As := [.int (gw_i w 27 (a0.toNatClampNeg)), .int 4]) (st := []) cv_BentWords_Teller_78 rfl rfl hr rfl rfl (Nat.le_of_ble_eq_true rfl) dX10_isAllTold_114 (fun v28 w29 hv => ?_)
        replace h := h v28 w29 hv
        clear hr
        exact bw_ireturn dX10_isAllTold_117 rfl (bw_nb _) ⟨_, rfl, h⟩
  · replace h := h.2 (c)
    refine bw_aload_n (i := 0) dX10_isAllTold_57 rfl rfl ?_
    refine bw_getr (r := 18) fg_BentWords_Teller_9 rfl rfl dX10_isAllTold_58 ?_
    refine bw_getr (r := 23) fg_BentWords_Teller_106 rfl rfl dX10_isAllTold_61 ?_
    refine bw_goto (tgt := 74) dX10_isAllTold_64 (by decide) ?_
    refine bw_astore (i := 7) (L' := [some (.ref 35), some (.int a0), some (.int (gw_i w 26 (a0.toNatClampNeg))), some (.int (gw_i w 27 (a0.toNatClampNeg))), some (.int v4), some (.int (gw_i w5 28 (a0.toNatClampNeg))), some (.int v8), some (.ref 23), none, none]) dX10_isAllTold_74 (Nat.le_of_ble_eq_true rfl) rfl ?_
    refine bw_aload dX10_isAllTold_76 rfl ?_
    refine bw_iload dX10_isAllTold_78 rfl ?_
    refine bw_iload dX10_isAllTold_80 rfl ?_
    refine bw_aload_n (i := 0) dX10_isAllTold_82 rfl rfl ?_
    refine bw_getr (r := 18) fg_BentWords_Teller_9 rfl rfl dX10_isAllTold_83 ?_
    refine bw_getr (r := 20) fg_BentWords_Teller_100 rfl rfl dX10_isAllTold_86 ?_
    refine bw_iload dX10_isAllTold_89 rfl ?_
    obtain ⟨hi30, h⟩ := h
    refine bw_iaload rfl hi30 dX10_isAllTold_91 ?_
    obtain ⟨Q31, hr, h⟩ := h
    refine bw_cSi (As := [.int (gw_i w5 28 (a0.toNatClampNeg)), .int v8, .int (gw_i w9 20 (v4.toNatClampNeg))]) (st := [.ref 23]) cs_BentWords_Teller_112 hr rfl rfl (Nat.le_of_ble_eq_true rfl) dX10_isAllTold_92 (fun v32 w33 hv => ?_)
    replace h := h v32 w33 hv
    clear hr
    obtain ⟨hi34, h⟩ := h
    refine bw_laload rfl hi34 dX10_isAllTold_95 ?_
    refine bw_lstore (i := 8) (L' := [some (.ref 35), some (.int a0), some (.int (gw_i w 26 (a0.toNatClampNeg))), some (.int (gw_i w 27 (a0.toNatClampNeg))), some (.int v4), some (.int (gw_i w5 28 (a0.toNatClampNeg))), some (.int v8), some (.ref 23), some (.long (gw_l w33 23 (v32.toNatClampNeg))), none]) dX10_isAllTold_96 (Nat.le_of_ble_eq_true rfl) rfl ?_
    refine bw_iload_n (i := 2) dX10_isAllTold_98 rfl rfl ?_
    refine bw_bipush (v := 35) dX10_isAllTold_99 (by decide) ?_
    refine bw_icmp_eq (tgt := 118) dX10_isAllTold_101 (by decide) (fun c => ?_) (fun c => ?_)
    · replace h := h.1 (c)
      refine bw_iload_n (i := 2) dX10_isAllTold_118 rfl rfl ?_
      refine bw_bipush (v := 37) dX10_isAllTold_119 (by decide) ?_
      refine bw_icmp_eq (tgt := 149) dX10_isAllTold_121 (by decide) (fun c => ?_) (fun c => ?_)
      · replace h := h.1 (c)
        refine bw_iconst (v := 1) dX10_isAllTold_149 (by decide) ?_
        refine bw_goto (tgt := 154) dX10_isAllTold_150 (by decide) ?_
        exact bw_ireturn dX10_isAllTold_154 rfl (bw_nb true) ⟨true, rfl, h⟩
      · replace h := h.2 (c)
        refine bw_aload_n (i := 0) dX10_isAllTold_124 rfl rfl ?_
        refine bw_getr (r := 31) fg_BentWords_Teller_15 rfl rfl dX10_isAllTold_125 ?_
        refine bw_iload dX10_isAllTold_128 rfl ?_
        refine bw_iload dX10_isAllTold_130 rfl ?_
        refine bw_iload dX10_isAllTold_132 rfl ?_
        obtain ⟨Q35, hr, h⟩ := h
        refine bw_cVi (As := [.int v4, .int (gw_i w5 28 (a0.toNatClampNeg)), .int v8]) (st := []) cv_BentWords_Teller_23 rfl rfl hr rfl rfl (Nat.le_of_ble_eq_true rfl) dX10_isAllTold_134 (fun v36 w37 hv => ?_)
        replace h := h v36 w37 hv
        clear hr
        refine bw_if_eq (tgt := 149) dX10_isAllTold_137 (by decide) (fun c => ?_) (fun c => ?_)
        · replace h := h.1 (c)
          refine bw_iconst (v := 1) dX10_isAllTold_149 (by decide) ?_
          refine bw_goto (tgt := 154) dX10_isAllTold_150 (by decide) ?_
          exact bw_ireturn dX10_isAllTold_154 rfl (bw_nb true) ⟨true, rfl, h⟩
        · replace h := h.2 (c)
          refine bw_aload_n (i := 0) dX10_isAllTold_140 rfl rfl ?_
          refine bw_iload_n (i := 3) dX10_isAllTold_141 rfl rfl ?_
          refine bw_iconst (v := 1) dX10_isAllTold_142 (by decide) ?_
          obtain ⟨Q38, hr, h⟩ := h
          refine bw_cVb (As := [.int (gw_i w 27 (a0.toNatClampNeg)), .int 1]) (st := []) cv_BentWords_Teller_78 rfl rfl hr rfl rfl (Nat.le_of_ble_eq_true rfl) dX10_isAllTold_143 (fun v39 w40 hv => ?_)
          replace h := h v39 w40 hv
          clear hr
          refine bw_ifb_eq (tgt := 153) dX10_isAllTold_146 (by decide) (fun c => ?_) (fun c => ?_)
          · replace h := h.1 (c)
            refine bw_iconst (v := 0) dX10_isAllTold_153 (by decide) ?_
            exact bw_ireturn dX10_isAllTold_154 rfl (bw_nb false) ⟨false, rfl, h⟩
          · replace h := h.2 (c)
            refine bw_iconst (v := 1) dX10_isAllTold_149 (by decide) ?_
            refine bw_goto (tgt := 154) dX10_isAllTold_150 (by decide) ?_
            exact bw_ireturn dX10_isAllTold_154 rfl (bw_nb true) ⟨true, rfl, h⟩
    · replace h := h.2 (c)
      refine bw_lload dX10_isAllTold_104 rfl ?_
      refine bw_lconst (v := 0) dX10_isAllTold_106 rfl ?_
      refine bw_lcmp_ne (tgt := 118) dX10_isAllTold_107 dX10_isAllTold_108 (by decide) (fun c => ?_) (fun c => ?_)
      · replace h := h.1 (c)
        refine bw_iload_n (i := 2) dX10_isAllTold_118 rfl rfl ?_
        refine bw_bipush (v := 37) dX10_isAllTold_119 (by decide) ?_
        refine bw_icmp_eq (tgt := 149) dX10_isAllTold_121 (by decide) (fun c => ?_) (fun c => ?_)
        · replace h := h.1 (c)
          refine bw_iconst (v := 1) dX10_isAllTold_149 (by decide) ?_
          refine bw_goto (tgt := 154) dX10_isAllTold_150 (by decide) ?_
          exact bw_ireturn dX10_isAllTold_154 rfl (bw_nb true) ⟨true, rfl, h⟩
        · replace h := h.2 (c)
          refine bw_aload_n (i := 0) dX10_isAllTold_124 rfl rfl ?_
          refine bw_getr (r := 31) fg_BentWords_Teller_15 rfl rfl dX10_isAllTold_125 ?_
          refine bw_iload dX10_isAllTold_128 rfl ?_
          refine bw_iload dX10_isAllTold_130 rfl ?_
          refine bw_iload dX10_isAllTold_132 rfl ?_
          obtain ⟨Q41, hr, h⟩ := h
          refine bw_cVi (As := [.int v4, .int (gw_i w5 28 (a0.toNatClampNeg)), .int v8]) (st := []) cv_BentWords_Teller_23 rfl rfl hr rfl rfl (Nat.le_of_ble_eq_true rfl) dX10_isAllTold_134 (fun v42 w43 hv => ?_)
          replace h := h v42 w43 hv
          clear hr
          refine bw_if_eq (tgt := 149) dX10_isAllTold_137 (by decide) (fun c => ?_) (fun c => ?_)
          · replace h := h.1 (c)
            refine bw_iconst (v := 1) dX10_isAllTold_149 (by decide) ?_
            refine bw_goto (tgt := 154) dX10_isAllTold_150 (by decide) ?_
            exact bw_ireturn dX10_isAllTold_154 rfl (bw_nb true) ⟨true, rfl, h⟩
          · replace h := h.2 (c)
            refine bw_aload_n (i := 0) dX10_isAllTold_140 rfl rfl ?_
            refine bw_iload_n (i := 3) dX10_isAllTold_141 rfl rfl ?_
            refine bw_iconst (v := 1) dX10_isAllTold_142 (by decide) ?_
            obtain ⟨Q44, hr, h⟩ := h
            refine bw_cVb (As := [.int (gw_i w 27 (a0.toNatClampNeg)), .int 1]) (st := []) cv_BentWords_Teller_78 rfl rfl hr rfl rfl (Nat.le_of_ble_eq_true rfl) dX10_isAllTold_143 (fun v45 w46 hv => ?_)
            replace h := h v45 w46 hv
            clear hr
            refine bw_ifb_eq (tgt := 153) dX10_isAllTold_146 (by decide) (fun c => ?_) (fun c => ?_)
            · replace h := h.1 (c)
              refine bw_iconst (v := 0) dX10_isAllTold_153 (by decide) ?_
              exact bw_ireturn dX10_isAllTold_154 rfl (bw_nb false) ⟨false, rfl, h⟩
            · replace h := h.2 (c)
              refine bw_iconst (v := 1) dX10_isAllTold_149 (by decide) ?_
              refine bw_goto (tgt := 154) dX10_isAllTold_150 (by decide) ?_
              exact bw_ireturn dX10_isAllTold_154 rfl (bw_nb true) ⟨true, rfl, h⟩
      · replace h := h.2 (c)
        refine bw_aload_n (i := 0) dX10_isAllTold_111 rfl rfl ?_
        refine bw_iload_n (i := 3) dX10_isAllTold_112 rfl rfl ?_
        refine bw_iconst (v := 4) dX10_isAllTold_113 (by decide) ?_
        obtain ⟨Q47, hr, h⟩ := h
        refine bw_cVb (As := [.int (gw_i w 27 (a0.toNatClampNeg)), .int 4]) (st := []) cv_BentWords_Teller_78 rfl rfl hr rfl rfl (Nat.le_of_ble_eq_true rfl) dX10_isAllTold_114 (fun v48 w49 hv => ?_)
        replace h := h v48 w49 hv
        clear hr
        exact bw_ireturn dX10_isAllTold_117 rfl (bw_nb _) ⟨_, rfl, h⟩
theorem wfX10_defaultIn {E : bw_E} {d : Nat} {w : bw_W} {Q : Int32 → bw_W → Prop} {a0 : Int32}  (h : (vp_in a0 32) ∧
(∃ Q2 : Int32 → bw_W → Prop, bw_ri E (d + 0) mX7_nounIn [.ref 31, .int (gw_i w 27 (a0.toNatClampNeg))] w Q2 ∧ ∀ v3 w4, Q2 v3 w4 →
(vp_in a0 32) ∧
(∃ Q6 : Int32 → bw_W → Prop, bw_ri E (d + 0) mX7_numberIn [.ref 31, .int (gw_i w 27 (a0.toNatClampNeg))] w4 Q6 ∧ ∀ v7 w8, Q6 v7 w8 →
(∃ Q9 : Int32 → bw_W → Prop, bw_ri E (d + 0) mX7_defaultOf [.ref 31, .int v3, .int (gw_i w4 28 (a0.toNatClampNeg)), .int v7] w8 Q9 ∧ ∀ v10 w11, Q9 v10 w11 →
Q v10 w11)))) : bw_ri E (d + 1) mX10_defaultIn [.ref 35, .int a0] w Q := by
  refine bw_enter rfl (Nat.le_of_ble_eq_true rfl) ?_
  refine bw_aload_n (i := 0) dX10_defaultIn_0 rfl rfl ?_
  refine bw_getr (r := 18) fg_BentWords_Teller_9 rfl rfl dX10_defaultIn_1 ?_
  refine bw_getr (r := 27) fg_BentWords_Teller_72 rfl rfl dX10_defaultIn_4 ?_
  refine bw_iload_n (i := 1) dX10_defaultIn_7 rfl rfl ?_
  obtain ⟨hi1, h⟩ := h
  refine bw_iaload rfl hi1 dX10_defaultIn_8 ?_
  refine bw_istore_n (i := 2) (L' := [some (.ref 35), some (.int a0), some (.int (gw_i w 27 (a0.toNatClampNeg)))]) dX10_defaultIn_9 rfl (Nat.le_of_ble_eq_true rfl) rfl ?_
  refine bw_aload_n (i := 0) dX10_defaultIn_10 rfl rfl ?_
  refine bw_getr (r := 31) fg_BentWords_Teller_15 rfl rfl dX10_defaultIn_11 ?_
  refine bw_aload_n (i := 0) dX10_defaultIn_14 rfl rfl ?_
  refine bw_getr (r := 31) fg_BentWords_Teller_15 rfl rfl dX10_defaultIn_15 ?_
  refine bw_iload_n (i := 2) dX10_defaultIn_18 rfl rfl ?_
  obtain ⟨Q2, hr, h⟩ := h
  refine bw_cVi (As := [.int (gw_i w 27 (a0.toNatClampNeg))]) (st := [.ref 31]) cv_BentWords_Teller_103 rfl rfl hr rfl rfl (Nat.le_of_ble_eq_true rfl) dX10_defaultIn_19 (fun v3 w4 hv => ?_)
  replace h := h v3 w4 hv
  clear hr
  refine bw_aload_n (i := 0) dX10_defaultIn_22 rfl rfl ?_
  refine bw_getr (r := 18) fg_BentWords_Teller_9 rfl rfl dX10_defaultIn_23 ?_
  refine bw_getr (r := 28) fg_BentWords_Teller_82 rfl rfl dX10_defaultIn_26 ?_
  refine bw_iload_n (i := 1) dX10_defaultIn_29 rfl rfl ?_
  obtain ⟨hi5, h⟩ := h
  refine bw_iaload rfl hi5 dX10_defaultIn_30 ?_
  refine bw_aload_n (i := 0) dX10_defaultIn_31 rfl rfl ?_
  refine bw_getr (r := 31) fg_BentWords_Teller_15 rfl rfl dX10_defaultIn_32 ?_
  refine bw_iload_n (i := 2) dX10_defaultIn_35 rfl rfl ?_
  obtain ⟨Q6, hr, h⟩ := h
  refine bw_cVi (As := [.int (gw_i w 27 (a0.toNatClampNeg))]) (st := [.int (gw_i w4 28 (a0.toNatClampNeg)), .int v3, .ref 31]) cv_BentWords_Teller_96 rfl rfl hr rfl rfl (Nat.le_of_ble_eq_true rfl) dX10_defaultIn_36 (fun v7 w8 hv => ?_)
  replace h := h v7 w8 hv
  clear hr
  obtain ⟨Q9, hr, h⟩ := h
  refine bw_cVi (As := [.int v3, .int (gw_i w4 28 (a0.toNatClampNeg)), .int v7]) (st := []) cv_BentWords_Teller_23 rfl rfl hr rfl rfl (Nat.le_of_ble_eq_true rfl) dX10_defaultIn_39 (fun v10 w11 hv => ?_)
  replace h := h v10 w11 hv
  clear hr
  exact bw_ireturn dX10_defaultIn_42 rfl rfl ⟨_, rfl, h⟩
theorem wfX10_putBlankBetween {E : bw_E} {d : Nat} {w : bw_W} {Q : bw_W → Prop}   (h : (((gw_i w 35 3) ≤ 0 → Q w) ∧ (¬ ((gw_i w 35 3) ≤ 0) → (∃ Q1 : bw_W → Prop, bw_rv E (d + 0) mX10_putByte [.ref 35, .int 32] w Q1 ∧ ∀ w3, Q1 w3 →
Q w3)))) : bw_rv E (d + 1) mX10_putBlankBetween [.ref 35] w Q := by
  refine bw_enter rfl (Nat.le_of_ble_eq_true rfl) ?_
  refine bw_aload_n (i := 0) dX10_putBlankBetween_0 rfl rfl ?_
  refine bw_geti fg_BentWords_Teller_119 rfl dX10_putBlankBetween_1 ?_
  refine bw_if_le (tgt := 13) dX10_putBlankBetween_4 (by decide) (fun c => ?_) (fun c => ?_)
  · replace h := h.1 (c)
    exact bw_return dX10_putBlankBetween_13 rfl ⟨rfl, h⟩
  · replace h := h.2 (c)
    refine bw_aload_n (i := 0) dX10_putBlankBetween_7 rfl rfl ?_
    refine bw_bipush (v := 32) dX10_putBlankBetween_8 (by decide) ?_
    obtain ⟨Q1, hr, h⟩ := h
    refine bw_cVv (As := [.int 32]) (st := []) cv_BentWords_Teller_157 rfl rfl hr rfl rfl (Nat.le_of_ble_eq_true rfl) dX10_putBlankBetween_10 (fun w3 hv => ?_)
    replace h := h w3 hv
    clear hr
    exact bw_return dX10_putBlankBetween_13 rfl ⟨rfl, h⟩
theorem wfX11_feed {E : bw_E} {d : Nat} {w : bw_W} {Q : Int32 → bw_W → Prop} {a0 : Int32} {a1 : Int32} {a2 : Int32} {a3 : Int32} {a4 : Int32}  (h : (∃ Q1 : Int32 → bw_W → Prop, bw_ri E (d + 0) mX9_bytesIn [.int a0] w Q1 ∧ ∀ v2 w3, Q1 v2 w3 →
(∃ Q4 : Int32 → bw_W → Prop, bw_ri E (d + 0) mX9_bytesIn [.int a1] w3 Q4 ∧ ∀ v5 w6, Q4 v5 w6 →
(∃ Q7 : Int32 → bw_W → Prop, bw_ri E (d + 0) mX9_bytesIn [.int a2] w6 Q7 ∧ ∀ v8 w9, Q7 v8 w9 →
(∃ Q10 : Int32 → bw_W → Prop, bw_ri E (d + 0) mX9_bytesIn [.int a3] w9 Q10 ∧ ∀ v11 w12, Q10 v11 w12 →
(∃ Q13 : Int32 → bw_W → Prop, bw_ri E (d + 0) mX9_bytesIn [.int a4] w12 Q13 ∧ ∀ v14 w15, Q13 v14 w15 →
((((gw_i w15 1 1) + ((((v2 + v5) + v8) + v11) + v14)) ≤ 480 → (∃ Q16 : bw_W → Prop, bw_rv E (d + 0) mX9_add [.ref 1, .int a0] w15 Q16 ∧ ∀ w18, Q16 w18 →
(∃ Q19 : bw_W → Prop, bw_rv E (d + 0) mX9_add [.ref 1, .int a1] w18 Q19 ∧ ∀ w21, Q19 w21 →
(∃ Q22 : bw_W → Prop, bw_rv E (d + 0) mX9_add [.ref 1, .int a2] w21 Q22 ∧ ∀ w24, Q22 w24 →
(∃ Q25 : bw_W → Prop, bw_rv E (d + 0) mX9_add [.ref 1, .int a3] w24 Q25 ∧ ∀ w27, Q25 w27 →
(∃ Q28 : bw_W → Prop, bw_rv E (d + 0) mX9_add [.ref 1, .int a4] w27 Q28 ∧ ∀ w30, Q28 w30 →
Q (gw_i w30 1 1) w30)))))) ∧ (¬ (((gw_i w15 1 1) + ((((v2 + v5) + v8) + v11) + v14)) ≤ 480) → Q (-1) w15)))))))) : bw_ri E (d + 1) mX11_feed [.ref 0, .int a0, .int a1, .int a2, .int a3, .int a4] w Q := by
  refine bw_enter rfl (Nat.le_of_ble_eq_true rfl) ?_
  refine bw_iload_n (i := 1) dX11_feed_0 rfl rfl ?_
  obtain ⟨Q1, hr, h⟩ := h
  refine bw_cSi (As := [.int a0]) (st := []) cs_BentWords_105 hr rfl rfl (Nat.le_of_ble_eq_true rfl) dX11_feed_1 (fun v2 w3 hv => ?_)
  replace h := h v2 w3 hv
  clear hr
  refine bw_iload_n (i := 2) dX11_feed_4 rfl rfl ?_
  obtain ⟨Q4, hr, h⟩ := h
  refine bw_cSi (As := [.int a1]) (st := [.int v2]) cs_BentWords_105 hr rfl rfl (Nat.le_of_ble_eq_true rfl) dX11_feed_5 (fun v5 w6 hv => ?_)
  replace h := h v5 w6 hv
  clear hr
  refine bw_iadd dX11_feed_8 ?_
  refine bw_iload_n (i := 3) dX11_feed_9 rfl rfl ?_
  obtain ⟨Q7, hr, h⟩ := h
  refine bw_cSi (As := [.int a2]) (st := [.int (v2 + v5)]) cs_BentWords_105 hr rfl rfl (Nat.le_of_ble_eq_true rfl) dX11_feed_10 (fun v8 w9 hv => ?_)
  replace h := h v8 w9 hv
  clear hr
  refine bw_iadd dX11_feed_13 ?_
  refine bw_iload dX11_feed_14 rfl ?_
  obtain ⟨Q10, hr, h⟩ := h
  refine bw_cSi (As := [.int a3]) (st := [.int ((v2 + v5) + v8)]) cs_BentWords_105 hr rfl rfl (Nat.le_of_ble_eq_true rfl) dX11_feed_16 (fun v11 w12 hv => ?_)
  replace h := h v11 w12 hv
  clear hr
  refine bw_iadd dX11_feed_19 ?_
  refine bw_iload dX11_feed_20 rfl ?_
  obtain ⟨Q13, hr, h⟩ := h
  refine bw_cSi (As := [.int a4]) (st := [.int (((v2 + v5) + v8) + v11)]) cs_BentWords_105 hr rfl rfl (Nat.le_of_ble_eq_true rfl) dX11_feed_22 (fun v14 w15 hv => ?_)
  replace h := h v14 w15 hv
  clear hr
  refine bw_iadd dX11_feed_25 ?_
  refine bw_istore (i := 6) (L' := [some (.ref 0), some (.int a0), some (.int a1), some (.int a2), some (.int a3), some (.int a4), some (.int ((((v2 + v5) + v8) + v11) + v14))]) dX11_feed_26 (Nat.le_of_ble_eq_true rfl) rfl ?_
  refine bw_aload_n (i := 0) dX11_feed_28 rfl rfl ?_
  refine bw_getr (r := 1) fg_BentWords_12 rfl rfl dX11_feed_29 ?_
  refine bw_geti fg_BentWords_109 rfl dX11_feed_32 ?_
  refine bw_iload dX11_feed_35 rfl ?_
  refine bw_iadd dX11_feed_37 ?_
  refine bw_sipush (v := 480) dX11_feed_38 (by decide) ?_
  refine bw_icmp_le (tgt := 46) dX11_feed_41 (by decide) (fun c => ?_) (fun c => ?_)
  · replace h := h.1 (c)
    refine bw_aload_n (i := 0) dX11_feed_46 rfl rfl ?_
    refine bw_getr (r := 1) fg_BentWords_12 rfl rfl dX11_feed_47 ?_
    refine bw_iload_n (i := 1) dX11_feed_50 rfl rfl ?_
    obtain ⟨Q16, hr, h⟩ := h
    refine bw_cVv (As := [.int a0]) (st := []) cv_BentWords_113 rfl rfl hr rfl rfl (Nat.le_of_ble_eq_true rfl) dX11_feed_51 (fun w18 hv => ?_)
    replace h := h w18 hv
    clear hr
    refine bw_aload_n (i := 0) dX11_feed_54 rfl rfl ?_
    refine bw_getr (r := 1) fg_BentWords_12 rfl rfl dX11_feed_55 ?_
    refine bw_iload_n (i := 2) dX11_feed_58 rfl rfl ?_
    obtain ⟨Q19, hr, h⟩ := h
    refine bw_cVv (As := [.int a1]) (st := []) cv_BentWords_113 rfl rfl hr rfl rfl (Nat.le_of_ble_eq_true rfl) dX11_feed_59 (fun w21 hv => ?_)
    replace h := h w21 hv
    clear hr
    refine bw_aload_n (i := 0) dX11_feed_62 rfl rfl ?_
    refine bw_getr (r := 1) fg_BentWords_12 rfl rfl dX11_feed_63 ?_
    refine bw_iload_n (i := 3) dX11_feed_66 rfl rfl ?_
    obtain ⟨Q22, hr, h⟩ := h
    refine bw_cVv (As := [.int a2]) (st := []) cv_BentWords_113 rfl rfl hr rfl rfl (Nat.le_of_ble_eq_true rfl) dX11_feed_67 (fun w24 hv => ?_)
    replace h := h w24 hv
    clear hr
    refine bw_aload_n (i := 0) dX11_feed_70 rfl rfl ?_
    refine bw_getr (r := 1) fg_BentWords_12 rfl rfl dX11_feed_71 ?_
    refine bw_iload dX11_feed_74 rfl ?_
    obtain ⟨Q25, hr, h⟩ := h
    refine bw_cVv (As := [.int a3]) (st := []) cv_BentWords_113 rfl rfl hr rfl rfl (Nat.le_of_ble_eq_true rfl) dX11_feed_76 (fun w27 hv => ?_)
    replace h := h w27 hv
    clear hr
    refine bw_aload_n (i := 0) dX11_feed_79 rfl rfl ?_
    refine bw_getr (r := 1) fg_BentWords_12 rfl rfl dX11_feed_80 ?_
    refine bw_iload dX11_feed_83 rfl ?_
    obtain ⟨Q28, hr, h⟩ := h
    refine bw_cVv (As := [.int a4]) (st := []) cv_BentWords_113 rfl rfl hr rfl rfl (Nat.le_of_ble_eq_true rfl) dX11_feed_85 (fun w30 hv => ?_)
    replace h := h w30 hv
    clear hr
    refine bw_aload_n (i := 0) dX11_feed_88 rfl rfl ?_
    refine bw_getr (r := 1) fg_BentWords_12 rfl rfl dX11_feed_89 ?_
    refine bw_geti fg_BentWords_109 rfl dX11_feed_92 ?_
    exact bw_ireturn dX11_feed_95 rfl rfl ⟨_, rfl, h⟩
  · replace h := h.2 (c)
    refine bw_iconst (v := (-1)) dX11_feed_44 (by decide) ?_
    exact bw_ireturn dX11_feed_45 rfl rfl ⟨_, rfl, h⟩
theorem wfX11_byDefault {E : bw_E} {d : Nat} {w : bw_W} {Q : Int32 → bw_W → Prop} {a0 : Int32} {a1 : Int32} {a2 : Int32}  (h : (∃ Q1 : Bool → bw_W → Prop, bw_rb E (d + 0) mX11_hasNoun [.ref 0, .int a0] w Q1 ∧ ∀ v2 w3, Q1 v2 w3 →
((v2 = false → Q (-1) w3) ∧ (v2 = true → (∃ Q4 : Bool → bw_W → Prop, bw_rb E (d + 0) mX11_isSlot [.int a1, .int a2] w3 Q4 ∧ ∀ v5 w6, Q4 v5 w6 →
((v5 = true → (∃ Q7 : Int32 → bw_W → Prop, bw_ri E (d + 0) mX7_defaultOf [.ref 31, .int a0, .int a1, .int a2] w6 Q7 ∧ ∀ v8 w9, Q7 v8 w9 →
Q v8 w9)) ∧ (v5 = false → Q (-1) w6))))))) : bw_ri E (d + 1) mX11_byDefault [.ref 0, .int a0, .int a1, .int a2] w Q := by
  refine bw_enter rfl (Nat.le_of_ble_eq_true rfl) ?_
  refine bw_aload_n (i := 0) dX11_byDefault_0 rfl rfl ?_
  refine bw_iload_n (i := 1) dX11_byDefault_1 rfl rfl ?_
  obtain ⟨Q1, hr, h⟩ := h
  refine bw_cVb (As := [.int a0]) (st := []) cv_BentWords_180 rfl rfl hr rfl rfl (Nat.le_of_ble_eq_true rfl) dX11_byDefault_2 (fun v2 w3 hv => ?_)
  replace h := h v2 w3 hv
  clear hr
  refine bw_ifb_eq (tgt := 16) dX11_byDefault_5 (by decide) (fun c => ?_) (fun c => ?_)
  · replace h := h.1 (c)
    refine bw_iconst (v := (-1)) dX11_byDefault_16 (by decide) ?_
    exact bw_ireturn dX11_byDefault_17 rfl rfl ⟨_, rfl, h⟩
  · replace h := h.2 (c)
    refine bw_iload_n (i := 2) dX11_byDefault_8 rfl rfl ?_
    refine bw_iload_n (i := 3) dX11_byDefault_9 rfl rfl ?_
    obtain ⟨Q4, hr, h⟩ := h
    refine bw_cSb (As := [.int a1, .int a2]) (st := []) cs_BentWords_200 hr rfl rfl (Nat.le_of_ble_eq_true rfl) dX11_byDefault_10 (fun v5 w6 hv => ?_)
    replace h := h v5 w6 hv
    clear hr
    refine bw_ifb_ne (tgt := 18) dX11_byDefault_13 (by decide) (fun c => ?_) (fun c => ?_)
    · replace h := h.1 (c)
      refine bw_aload_n (i := 0) dX11_byDefault_18 rfl rfl ?_
      refine bw_getr (r := 31) fg_BentWords_58 rfl rfl dX11_byDefault_19 ?_
      refine bw_iload_n (i := 1) dX11_byDefault_22 rfl rfl ?_
      refine bw_iload_n (i := 2) dX11_byDefault_23 rfl rfl ?_
      refine bw_iload_n (i := 3) dX11_byDefault_24 rfl rfl ?_
      obtain ⟨Q7, hr, h⟩ := h
      refine bw_cVi (As := [.int a0, .int a1, .int a2]) (st := []) cv_BentWords_212 rfl rfl hr rfl rfl (Nat.le_of_ble_eq_true rfl) dX11_byDefault_25 (fun v8 w9 hv => ?_)
      replace h := h v8 w9 hv
      clear hr
      exact bw_ireturn dX11_byDefault_28 rfl rfl ⟨_, rfl, h⟩
    · replace h := h.2 (c)
      refine bw_iconst (v := (-1)) dX11_byDefault_16 (by decide) ?_
      exact bw_ireturn dX11_byDefault_17 rfl rfl ⟨_, rfl, h⟩
theorem wfX11_hole {E : bw_E} {d : Nat} {w : bw_W} {Q : Int32 → bw_W → Prop} {a0 : Int32} {a1 : Int32}  (h : (((gw_i w 0 5) = 0 → Q (-1) w) ∧ (¬ ((gw_i w 0 5) = 0) → (∃ Q1 : Bool → bw_W → Prop, bw_rb E (d + 0) mX11_isHole [.int a0] w Q1 ∧ ∀ v2 w3, Q1 v2 w3 →
((v2 = false → Q (-1) w3) ∧ (v2 = true → (∃ Q4 : Bool → bw_W → Prop, bw_rb E (d + 0) mX7_isOpen [.ref 31, .int a0] w3 Q4 ∧ ∀ v5 w6, Q4 v5 w6 →
((v5 = false → ((a1 = 0 → (∃ Q7 : Int32 → bw_W → Prop, bw_ri E (d + 0) mX7_nounIn [.ref 31, .int a0] w6 Q7 ∧ ∀ v8 w9, Q7 v8 w9 →
Q v8 w9)) ∧ (a1 = 1 → (∃ Q10 : Int32 → bw_W → Prop, bw_ri E (d + 0) mX7_countIn [.ref 31, .int a0] w6 Q10 ∧ ∀ v11 w12, Q10 v11 w12 →
Q v11 w12)) ∧ (a1 = 2 → (∃ Q13 : Int32 → bw_W → Prop, bw_ri E (d + 0) mX7_numberIn [.ref 31, .int a0] w6 Q13 ∧ ∀ v14 w15, Q13 v14 w15 →
Q v14 w15)) ∧ (a1.toInt < 0 ∨ 2 < a1.toInt → Q (-1) w6))) ∧ (v5 = true → Q (-1) w6))))))))) : bw_ri E (d + 1) mX11_hole [.ref 0, .int a0, .int a1] w Q := by
  refine bw_enter rfl (Nat.le_of_ble_eq_true rfl) ?_
  refine bw_aload_n (i := 0) dX11_hole_0 rfl rfl ?_
  refine bw_geti fg_BentWords_140 rfl dX11_hole_1 ?_
  refine bw_if_eq (tgt := 25) dX11_hole_4 (by decide) (fun c => ?_) (fun c => ?_)
  · replace h := h.1 (c)
    refine bw_iconst (v := (-1)) dX11_hole_25 (by decide) ?_
    exact bw_ireturn dX11_hole_26 rfl rfl ⟨_, rfl, h⟩
  · replace h := h.2 (c)
    refine bw_iload_n (i := 1) dX11_hole_7 rfl rfl ?_
    obtain ⟨Q1, hr, h⟩ := h
    refine bw_cSb (As := [.int a0]) (st := []) cs_BentWords_220 hr rfl rfl (Nat.le_of_ble_eq_true rfl) dX11_hole_8 (fun v2 w3 hv => ?_)
    replace h := h v2 w3 hv
    clear hr
    refine bw_ifb_eq (tgt := 25) dX11_hole_11 (by decide) (fun c => ?_) (fun c => ?_)
    · replace h := h.1 (c)
      refine bw_iconst (v := (-1)) dX11_hole_25 (by decide) ?_
      exact bw_ireturn dX11_hole_26 rfl rfl ⟨_, rfl, h⟩
    · replace h := h.2 (c)
      refine bw_aload_n (i := 0) dX11_hole_14 rfl rfl ?_
      refine bw_getr (r := 31) fg_BentWords_58 rfl rfl dX11_hole_15 ?_
      refine bw_iload_n (i := 1) dX11_hole_18 rfl rfl ?_
      obtain ⟨Q4, hr, h⟩ := h
      refine bw_cVb (As := [.int a0]) (st := []) cv_BentWords_223 rfl rfl hr rfl rfl (Nat.le_of_ble_eq_true rfl) dX11_hole_19 (fun v5 w6 hv => ?_)
      replace h := h v5 w6 hv
      clear hr
      refine bw_ifb_eq (tgt := 27) dX11_hole_22 (by decide) (fun c => ?_) (fun c => ?_)
      · replace h := h.1 (c)
        refine bw_iload_n (i := 2) dX11_hole_27 rfl rfl ?_
        refine bw_tabsw dX11_hole_28 [56, 65, 74] 83 (by decide) rfl rfl (fun j hj hx => ?_) (fun hx => ?_)
        · match j, hj, hx with
          | 0, _, hx =>
            replace h := h.1 (bw_ti hx (by decide))
            refine bw_aload_n (i := 0) dX11_hole_56 rfl rfl ?_
            refine bw_getr (r := 31) fg_BentWords_58 rfl rfl dX11_hole_57 ?_
            refine bw_iload_n (i := 1) dX11_hole_60 rfl rfl ?_
            obtain ⟨Q7, hr, h⟩ := h
            refine bw_cVi (As := [.int a0]) (st := []) cv_BentWords_226 rfl rfl hr rfl rfl (Nat.le_of_ble_eq_true rfl) dX11_hole_61 (fun v8 w9 hv => ?_)
            replace h := h v8 w9 hv
            clear hr
            exact bw_ireturn dX11_hole_64 rfl rfl ⟨_, rfl, h⟩
          | 1, _, hx =>
            replace h := h.2.1 (bw_ti hx (by decide))
            refine bw_aload_n (i := 0) dX11_hole_65 rfl rfl ?_
            refine bw_getr (r := 31) fg_BentWords_58 rfl rfl dX11_hole_66 ?_
            refine bw_iload_n (i := 1) dX11_hole_69 rfl rfl ?_
            obtain ⟨Q10, hr, h⟩ := h
            refine bw_cVi (As := [.int a0]) (st := []) cv_BentWords_229 rfl rfl hr rfl rfl (Nat.le_of_ble_eq_true rfl) dX11_hole_70 (fun v11 w12 hv => ?_)
            replace h := h v11 w12 hv
            clear hr
            exact bw_ireturn dX11_hole_73 rfl rfl ⟨_, rfl, h⟩
          | 2, _, hx =>
            replace h := h.2.2.1 (bw_ti hx (by decide))
            refine bw_aload_n (i := 0) dX11_hole_74 rfl rfl ?_
            refine bw_getr (r := 31) fg_BentWords_58 rfl rfl dX11_hole_75 ?_
            refine bw_iload_n (i := 1) dX11_hole_78 rfl rfl ?_
            obtain ⟨Q13, hr, h⟩ := h
            refine bw_cVi (As := [.int a0]) (st := []) cv_BentWords_232 rfl rfl hr rfl rfl (Nat.le_of_ble_eq_true rfl) dX11_hole_79 (fun v14 w15 hv => ?_)
            replace h := h v14 w15 hv
            clear hr
            exact bw_ireturn dX11_hole_82 rfl rfl ⟨_, rfl, h⟩
          | j + 3, hj, _ => exact absurd hj (by simp)
        · replace h := h.2.2.2 hx
          refine bw_iconst (v := (-1)) dX11_hole_83 (by decide) ?_
          exact bw_ireturn dX11_hole_84 rfl rfl ⟨_, rfl, h⟩
      · replace h := h.2 (c)
        refine bw_iconst (v := (-1)) dX11_hole_25 (by decide) ?_
        exact bw_ireturn dX11_hole_26 rfl rfl ⟨_, rfl, h⟩
theorem wfX11_bare_14 {E : bw_E} {d : Nat} {w : bw_W} {Q : Int32 → bw_W → Prop} {l1 : Int32} {l2 : Int32} {l3 : Int32}  (h : ((8 ≤ l3 → Q l2 w) ∧ (¬ (8 ≤ l3) → (vp_in ((l1 * 8) + l3) 52) ∧
((¬ (gw_l w 32 (((l1 * 8) + l3).toNatClampNeg)) = 0 → bw_G E (d + 1) mX11_bare 14 [some (.ref 0), some (.int l1), some (.int l2), some (.int (l3 + 1))] [] w (bw_qi Q)) ∧ ((gw_l w 32 (((l1 * 8) + l3).toNatClampNeg)) = 0 → bw_G E (d + 1) mX11_bare 14 [some (.ref 0), some (.int l1), some (.int (l2 ||| ((1 : Int32) <<< (l3 &&& 31)))), some (.int (l3 + 1))] [] w (bw_qi Q)))))) : bw_G E (d + 1) mX11_bare 14 [some (.ref 0), some (.int l1), some (.int l2), some (.int l3)] [] w (bw_qi Q) := by
  refine bw_iload_n (i := 3) dX11_bare_14 rfl rfl ?_
  refine bw_bipush (v := 8) dX11_bare_15 (by decide) ?_
  refine bw_icmp_ge (tgt := 51) dX11_bare_17 (by decide) (fun c => ?_) (fun c => ?_)
  · replace h := h.1 (c)
    refine bw_iload_n (i := 2) dX11_bare_51 rfl rfl ?_
    exact bw_ireturn dX11_bare_52 rfl rfl ⟨_, rfl, h⟩
  · replace h := h.2 (c)
    refine bw_aload_n (i := 0) dX11_bare_20 rfl rfl ?_
    refine bw_getr (r := 31) fg_BentWords_58 rfl rfl dX11_bare_21 ?_
    refine bw_getr (r := 32) fg_BentWords_170 rfl rfl dX11_bare_24 ?_
    refine bw_iload_n (i := 1) dX11_bare_27 rfl rfl ?_
    refine bw_bipush (v := 8) dX11_bare_28 (by decide) ?_
    refine bw_imul dX11_bare_30 ?_
    refine bw_iload_n (i := 3) dX11_bare_31 rfl rfl ?_
    refine bw_iadd dX11_bare_32 ?_
    obtain ⟨hi1, h⟩ := h
    refine bw_laload rfl hi1 dX11_bare_33 ?_
    refine bw_lconst (v := 0) dX11_bare_34 rfl ?_
    refine bw_lcmp_ne (tgt := 45) dX11_bare_35 dX11_bare_36 (by decide) (fun c => ?_) (fun c => ?_)
    · replace h := h.1 (c)
      refine bw_iinc (i := 3) (x := l3) (v := (l3 + 1)) (L' := [some (.ref 0), some (.int l1), some (.int l2), some (.int (l3 + 1))]) dX11_bare_45 rfl rfl (Nat.le_of_ble_eq_true rfl) rfl ?_
      refine bw_goto (tgt := 14) dX11_bare_48 (by decide) ?_
      exact h
    · replace h := h.2 (c)
      refine bw_iload_n (i := 2) dX11_bare_39 rfl rfl ?_
      refine bw_iconst (v := 1) dX11_bare_40 (by decide) ?_
      refine bw_iload_n (i := 3) dX11_bare_41 rfl rfl ?_
      refine bw_ishl dX11_bare_42 ?_
      refine bw_ior dX11_bare_43 ?_
      refine bw_istore_n (i := 2) (L' := [some (.ref 0), some (.int l1), some (.int (l2 ||| ((1 : Int32) <<< (l3 &&& 31)))), some (.int l3)]) dX11_bare_44 rfl (Nat.le_of_ble_eq_true rfl) rfl ?_
      refine bw_iinc (i := 3) (x := l3) (v := (l3 + 1)) (L' := [some (.ref 0), some (.int l1), some (.int (l2 ||| ((1 : Int32) <<< (l3 &&& 31)))), some (.int (l3 + 1))]) dX11_bare_45 rfl rfl (Nat.le_of_ble_eq_true rfl) rfl ?_
      refine bw_goto (tgt := 14) dX11_bare_48 (by decide) ?_
      exact h
theorem wfX11_bare {E : bw_E} {d : Nat} {w : bw_W} {Q : Int32 → bw_W → Prop} {a0 : Int32}  (h : (∃ Q1 : Bool → bw_W → Prop, bw_rb E (d + 0) mX11_hasNoun [.ref 0, .int a0] w Q1 ∧ ∀ v2 w3, Q1 v2 w3 →
((v2 = true → bw_G E (d + 1) mX11_bare 14 [some (.ref 0), some (.int a0), some (.int 0), some (.int 0)] [] w3 (bw_qi Q)) ∧ (v2 = false → Q (-1) w3)))) : bw_ri E (d + 1) mX11_bare [.ref 0, .int a0] w Q := by
  refine bw_enter rfl (Nat.le_of_ble_eq_true rfl) ?_
  refine bw_aload_n (i := 0) dX11_bare_0 rfl rfl ?_
  refine bw_iload_n (i := 1) dX11_bare_1 rfl rfl ?_
  obtain ⟨Q1, hr, h⟩ := h
  refine bw_cVb (As := [.int a0]) (st := []) cv_BentWords_180 rfl rfl hr rfl rfl (Nat.le_of_ble_eq_true rfl) dX11_bare_2 (fun v2 w3 hv => ?_)
  replace h := h v2 w3 hv
  clear hr
  refine bw_ifb_ne (tgt := 10) dX11_bare_5 (by decide) (fun c => ?_) (fun c => ?_)
  · replace h := h.1 (c)
    refine bw_iconst (v := 0) dX11_bare_10 (by decide) ?_
    refine bw_istore_n (i := 2) (L' := [some (.ref 0), some (.int a0), some (.int 0), none]) dX11_bare_11 rfl (Nat.le_of_ble_eq_true rfl) rfl ?_
    refine bw_iconst (v := 0) dX11_bare_12 (by decide) ?_
    refine bw_istore_n (i := 3) (L' := [some (.ref 0), some (.int a0), some (.int 0), some (.int 0)]) dX11_bare_13 rfl (Nat.le_of_ble_eq_true rfl) rfl ?_
    exact h
  · replace h := h.2 (c)
    refine bw_iconst (v := (-1)) dX11_bare_8 (by decide) ?_
    exact bw_ireturn dX11_bare_9 rfl rfl ⟨_, rfl, h⟩
theorem wfX11_fillByGuess_21 {E : bw_E} {d : Nat} {w : bw_W} {Q : bw_W → Prop} {l1 : Int32} {l2 : Int32} {l3 : Int32} {l4 : Int32} {l5 : Int32}  (h : ((l5 < 0 → Q w) ∧ (¬ (l5 < 0) → ((((l1 >>> (l5 &&& 31)) &&& 1) = 0 → bw_G E (d + 1) mX11_fillByGuess 21 [some (.ref 0), some (.int l1), some (.int l2), some (.int l3), some (.int l4), some (.int (l5 + (-1))), none] [] w (bw_qv Q)) ∧ (¬ (((l1 >>> (l5 &&& 31)) &&& 1) = 0) → (¬ l3 = 0) ∧
(¬ l3 = 0) ∧
(∃ Q3 : Int64 → bw_W → Prop, bw_rl E (d + 0) mX7_filling [.int ((l4 - l4 / l3 * l3) / 2), .int (1 + ((l4 - l4 / l3 * l3) - (l4 - l4 / l3 * l3) / 2 * 2))] w Q3 ∧ ∀ v4 w5, Q3 v4 w5 →
(vp_in (48 + l5) 52) ∧
bw_G E (d + 1) mX11_fillByGuess 21 [some (.ref 0), some (.int l1), some (.int l2), some (.int l3), some (.int (l4 / l3)), some (.int (l5 + (-1))), none] [] (sw_l w5 32 ((48 + l5).toNatClampNeg) v4) (bw_qv Q))))))) : bw_G E (d + 1) mX11_fillByGuess 21 [some (.ref 0), some (.int l1), some (.int l2), some (.int l3), some (.int l4), some (.int l5), none] [] w (bw_qv Q) := by
  refine bw_iload dX11_fillByGuess_21 rfl ?_
  refine bw_if_lt (tgt := 79) dX11_fillByGuess_23 (by decide) (fun c => ?_) (fun c => ?_)
  · replace h := h.1 (c)
    exact bw_return dX11_fillByGuess_79 rfl ⟨rfl, h⟩
  · replace h := h.2 (c)
    refine bw_iload_n (i := 1) dX11_fillByGuess_26 rfl rfl ?_
    refine bw_iload dX11_fillByGuess_27 rfl ?_
    refine bw_ishr dX11_fillByGuess_29 ?_
    refine bw_iconst (v := 1) dX11_fillByGuess_30 (by decide) ?_
    refine bw_iand dX11_fillByGuess_31 ?_
    refine bw_if_eq (tgt := 73) dX11_fillByGuess_32 (by decide) (fun c => ?_) (fun c => ?_)
    · replace h := h.1 (c)
      refine bw_iinc (i := 5) (x := l5) (v := (l5 + (-1))) (L' := [some (.ref 0), some (.int l1), some (.int l2), some (.int l3), some (.int l4), some (.int (l5 + (-1))), none]) dX11_fillByGuess_73 rfl rfl (Nat.le_of_ble_eq_true rfl) rfl ?_
      refine bw_goto (tgt := 21) dX11_fillByGuess_76 (by decide) ?_
      exact h
    · replace h := h.2 (c)
      refine bw_iload dX11_fillByGuess_35 rfl ?_
      refine bw_iload_n (i := 3) dX11_fillByGuess_37 rfl rfl ?_
      obtain ⟨hz1, h⟩ := h
      refine bw_irem dX11_fillByGuess_38 hz1 ?_
      refine bw_istore (i := 6) (L' := [some (.ref 0), some (.int l1), some (.int l2), some (.int l3), some (.int l4), some (.int l5), some (.int (l4 - l4 / l3 * l3))]) dX11_fillByGuess_39 (Nat.le_of_ble_eq_true rfl) rfl ?_
      refine bw_iload dX11_fillByGuess_41 rfl ?_
      refine bw_iload_n (i := 3) dX11_fillByGuess_43 rfl rfl ?_
      obtain ⟨hz2, h⟩ := h
      refine bw_idiv dX11_fillByGuess_44 hz2 ?_
      refine bw_istore (i := 4) (L' := [some (.ref 0), some (.int l1), some (.int l2), some (.int l3), some (.int (l4 / l3)), some (.int l5), some (.int (l4 - l4 / l3 * l3))]) dX11_fillByGuess_45 (Nat.le_of_ble_eq_true rfl) rfl ?_
      refine bw_aload_n (i := 0) dX11_fillByGuess_47 rfl rfl ?_
      refine bw_getr (r := 31) fg_BentWords_58 rfl rfl dX11_fillByGuess_48 ?_
      refine bw_getr (r := 32) fg_BentWords_170 rfl rfl dX11_fillByGuess_51 ?_
      refine bw_bipush (v := 48) dX11_fillByGuess_54 (by decide) ?_
      refine bw_iload dX11_fillByGuess_56 rfl ?_
      refine bw_iadd dX11_fillByGuess_58 ?_
      refine bw_iload dX11_fillByGuess_59 rfl ?_
      refine bw_iconst (v := 2) dX11_fillByGuess_61 (by decide) ?_
      refine bw_idiv dX11_fillByGuess_62 (by decide) ?_
      refine bw_iconst (v := 1) dX11_fillByGuess_63 (by decide) ?_
      refine bw_iload dX11_fillByGuess_64 rfl ?_
      refine bw_iconst (v := 2) dX11_fillByGuess_66 (by decide) ?_
      refine bw_irem dX11_fillByGuess_67 (by decide) ?_
      refine bw_iadd dX11_fillByGuess_68 ?_
      obtain ⟨Q3, hr, h⟩ := h
      refine bw_cSl (As := [.int ((l4 - l4 / l3 * l3) / 2), .int (1 + ((l4 - l4 / l3 * l3) - (l4 - l4 / l3 * l3) / 2 * 2))]) (st := [.int (48 + l5), .ref 32]) cs_BentWords_314 hr rfl rfl (Nat.le_of_ble_eq_true rfl) dX11_fillByGuess_69 (fun v4 w5 hv => ?_)
      replace h := h v4 w5 hv
      clear hr
      obtain ⟨hi6, h⟩ := h
      refine bw_lastore rfl hi6 dX11_fillByGuess_72 ?_
      refine bw_iinc (i := 5) (x := l5) (v := (l5 + (-1))) (L' := [some (.ref 0), some (.int l1), some (.int l2), some (.int l3), some (.int (l4 / l3)), some (.int (l5 + (-1))), some (.int (l4 - l4 / l3 * l3))]) dX11_fillByGuess_73 rfl rfl (Nat.le_of_ble_eq_true rfl) rfl ?_
      refine bw_goto (tgt := 21) dX11_fillByGuess_76 (by decide) ?_
      exact bw_wk [6] rfl h
theorem wfX11_fillByGuess {E : bw_E} {d : Nat} {w : bw_W} {Q : bw_W → Prop} {a0 : Int32} {a1 : Int32}  (h : ((¬ (2 * (gw_i w 18 0)) = 0 → bw_G E (d + 1) mX11_fillByGuess 21 [some (.ref 0), some (.int a0), some (.int a1), some (.int (2 * (gw_i w 18 0))), some (.int a1), some (.int 2), none] [] w (bw_qv Q)) ∧ ((2 * (gw_i w 18 0)) = 0 → Q w))) : bw_rv E (d + 1) mX11_fillByGuess [.ref 0, .int a0, .int a1] w Q := by
  refine bw_enter rfl (Nat.le_of_ble_eq_true rfl) ?_
  refine bw_iconst (v := 2) dX11_fillByGuess_0 (by decide) ?_
  refine bw_aload_n (i := 0) dX11_fillByGuess_1 rfl rfl ?_
  refine bw_getr (r := 18) fg_BentWords_44 rfl rfl dX11_fillByGuess_2 ?_
  refine bw_geti fg_BentWords_153 rfl dX11_fillByGuess_5 ?_
  refine bw_imul dX11_fillByGuess_8 ?_
  refine bw_istore_n (i := 3) (L' := [some (.ref 0), some (.int a0), some (.int a1), some (.int (2 * (gw_i w 18 0))), none, none, none]) dX11_fillByGuess_9 rfl (Nat.le_of_ble_eq_true rfl) rfl ?_
  refine bw_iload_n (i := 3) dX11_fillByGuess_10 rfl rfl ?_
  refine bw_if_ne (tgt := 15) dX11_fillByGuess_11 (by decide) (fun c => ?_) (fun c => ?_)
  · replace h := h.1 (c)
    refine bw_iload_n (i := 2) dX11_fillByGuess_15 rfl rfl ?_
    refine bw_istore (i := 4) (L' := [some (.ref 0), some (.int a0), some (.int a1), some (.int (2 * (gw_i w 18 0))), some (.int a1), none, none]) dX11_fillByGuess_16 (Nat.le_of_ble_eq_true rfl) rfl ?_
    refine bw_iconst (v := 2) dX11_fillByGuess_18 (by decide) ?_
    refine bw_istore (i := 5) (L' := [some (.ref 0), some (.int a0), some (.int a1), some (.int (2 * (gw_i w 18 0))), some (.int a1), some (.int 2), none]) dX11_fillByGuess_19 (Nat.le_of_ble_eq_true rfl) rfl ?_
    exact h
  · replace h := h.2 (c)
    exact bw_return dX11_fillByGuess_14 rfl ⟨rfl, h⟩
theorem wfX11_guessedIn {E : bw_E} {d : Nat} {w : bw_W} {Q : Int32 → bw_W → Prop} {a0 : Int32} {a1 : Int32}  (h : ((¬ ((a0 >>> ((a1 - a1 / 3 * 3) &&& 31)) &&& 1) = 0 → ((3 ≤ a1 → (∃ Q1 : Int32 → bw_W → Prop, bw_ri E (d + 0) mX7_countIn [.ref 31, .int (a1 - a1 / 3 * 3)] w Q1 ∧ ∀ v2 w3, Q1 v2 w3 →
Q v2 w3)) ∧ (¬ (3 ≤ a1) → (∃ Q4 : Int32 → bw_W → Prop, bw_ri E (d + 0) mX7_nounIn [.ref 31, .int (a1 - a1 / 3 * 3)] w Q4 ∧ ∀ v5 w6, Q4 v5 w6 →
Q v5 w6)))) ∧ (((a0 >>> ((a1 - a1 / 3 * 3) &&& 31)) &&& 1) = 0 → Q (-1) w))) : bw_ri E (d + 1) mX11_guessedIn [.ref 0, .int a0, .int a1] w Q := by
  refine bw_enter rfl (Nat.le_of_ble_eq_true rfl) ?_
  refine bw_iload_n (i := 2) dX11_guessedIn_0 rfl rfl ?_
  refine bw_iconst (v := 3) dX11_guessedIn_1 (by decide) ?_
  refine bw_irem dX11_guessedIn_2 (by decide) ?_
  refine bw_istore_n (i := 3) (L' := [some (.ref 0), some (.int a0), some (.int a1), some (.int (a1 - a1 / 3 * 3))]) dX11_guessedIn_3 rfl (Nat.le_of_ble_eq_true rfl) rfl ?_
  refine bw_iload_n (i := 1) dX11_guessedIn_4 rfl rfl ?_
  refine bw_iload_n (i := 3) dX11_guessedIn_5 rfl rfl ?_
  refine bw_ishr dX11_guessedIn_6 ?_
  refine bw_iconst (v := 1) dX11_guessedIn_7 (by decide) ?_
  refine bw_iand dX11_guessedIn_8 ?_
  refine bw_if_ne (tgt := 14) dX11_guessedIn_9 (by decide) (fun c => ?_) (fun c => ?_)
  · replace h := h.1 (c)
    refine bw_iload_n (i := 2) dX11_guessedIn_14 rfl rfl ?_
    refine bw_iconst (v := 3) dX11_guessedIn_15 (by decide) ?_
    refine bw_icmp_ge (tgt := 30) dX11_guessedIn_16 (by decide) (fun c => ?_) (fun c => ?_)
    · replace h := h.1 (c)
      refine bw_aload_n (i := 0) dX11_guessedIn_30 rfl rfl ?_
      refine bw_getr (r := 31) fg_BentWords_58 rfl rfl dX11_guessedIn_31 ?_
      refine bw_iload_n (i := 3) dX11_guessedIn_34 rfl rfl ?_
      obtain ⟨Q1, hr, h⟩ := h
      refine bw_cVi (As := [.int (a1 - a1 / 3 * 3)]) (st := []) cv_BentWords_229 rfl rfl hr rfl rfl (Nat.le_of_ble_eq_true rfl) dX11_guessedIn_35 (fun v2 w3 hv => ?_)
      replace h := h v2 w3 hv
      clear hr
      exact bw_ireturn dX11_guessedIn_38 rfl rfl ⟨_, rfl, h⟩
    · replace h := h.2 (c)
      refine bw_aload_n (i := 0) dX11_guessedIn_19 rfl rfl ?_
      refine bw_getr (r := 31) fg_BentWords_58 rfl rfl dX11_guessedIn_20 ?_
      refine bw_iload_n (i := 3) dX11_guessedIn_23 rfl rfl ?_
      obtain ⟨Q4, hr, h⟩ := h
      refine bw_cVi (As := [.int (a1 - a1 / 3 * 3)]) (st := []) cv_BentWords_226 rfl rfl hr rfl rfl (Nat.le_of_ble_eq_true rfl) dX11_guessedIn_24 (fun v5 w6 hv => ?_)
      replace h := h v5 w6 hv
      clear hr
      refine bw_goto (tgt := 38) dX11_guessedIn_27 (by decide) ?_
      exact bw_ireturn dX11_guessedIn_38 rfl rfl ⟨_, rfl, h⟩
  · replace h := h.2 (c)
    refine bw_iconst (v := (-1)) dX11_guessedIn_12 (by decide) ?_
    exact bw_ireturn dX11_guessedIn_13 rfl rfl ⟨_, rfl, h⟩
theorem wfX11_undo {E : bw_E} {d : Nat} {w : bw_W} {Q : Int32 → bw_W → Prop}   (h : ((¬ (gw_i w 37 4) = 0 → (∃ Q1 : bw_W → Prop, bw_rv E (d + 0) mX2_undoLatest [.ref 37, .ref 31] w Q1 ∧ ∀ w3, Q1 w3 →
Q (gw_i w3 37 4) w3)) ∧ ((gw_i w 37 4) = 0 → Q (-1) w))) : bw_ri E (d + 1) mX11_undo [.ref 0] w Q := by
  refine bw_enter rfl (Nat.le_of_ble_eq_true rfl) ?_
  refine bw_aload_n (i := 0) dX11_undo_0 rfl rfl ?_
  refine bw_getr (r := 37) fg_BentWords_77 rfl rfl dX11_undo_1 ?_
  refine bw_geti fg_BentWords_336 rfl dX11_undo_4 ?_
  refine bw_if_ne (tgt := 12) dX11_undo_7 (by decide) (fun c => ?_) (fun c => ?_)
  · replace h := h.1 (c)
    refine bw_aload_n (i := 0) dX11_undo_12 rfl rfl ?_
    refine bw_getr (r := 37) fg_BentWords_77 rfl rfl dX11_undo_13 ?_
    refine bw_aload_n (i := 0) dX11_undo_16 rfl rfl ?_
    refine bw_getr (r := 31) fg_BentWords_58 rfl rfl dX11_undo_17 ?_
    obtain ⟨Q1, hr, h⟩ := h
    refine bw_cVv (As := [.ref 31]) (st := []) cv_BentWords_339 rfl rfl hr rfl rfl (Nat.le_of_ble_eq_true rfl) dX11_undo_20 (fun w3 hv => ?_)
    replace h := h w3 hv
    clear hr
    refine bw_aload_n (i := 0) dX11_undo_23 rfl rfl ?_
    refine bw_getr (r := 37) fg_BentWords_77 rfl rfl dX11_undo_24 ?_
    refine bw_geti fg_BentWords_336 rfl dX11_undo_27 ?_
    exact bw_ireturn dX11_undo_30 rfl rfl ⟨_, rfl, h⟩
  · replace h := h.2 (c)
    refine bw_iconst (v := (-1)) dX11_undo_10 (by decide) ?_
    exact bw_ireturn dX11_undo_11 rfl rfl ⟨_, rfl, h⟩
theorem wfX11_boundsRefusal {E : bw_E} {d : Nat} {w : bw_W} {Q : Int32 → bw_W → Prop} {sp : Nat} (h_sp : bw_sh sp = (0, 8, 5)) (h : (((gw_i w sp 0) = 0 → (∃ Q1 : Bool → bw_W → Prop, bw_rb E (d + 0) mX11_isHole [.int (gw_i w sp 1)] w Q1 ∧ ∀ v2 w3, Q1 v2 w3 →
((v2 = false → Q 0 w3) ∧ (v2 = true → (∃ Q4 : Bool → bw_W → Prop, bw_rb E (d + 0) mX11_hasNoun [.ref 0, .int (gw_i w3 sp 2)] w3 Q4 ∧ ∀ v5 w6, Q4 v5 w6 →
((v5 = true → (((gw_i w6 sp 3) < 0 → Q 1 w6) ∧ (¬ ((gw_i w6 sp 3) < 0) → (((gw_i w6 sp 3) ≤ 99 → Q (-1) w6) ∧ (¬ ((gw_i w6 sp 3) ≤ 99) → Q 1 w6))))) ∧ (v5 = false → Q 0 w6))))))) ∧ ((gw_i w sp 0) = 1 → (∃ Q7 : Bool → bw_W → Prop, bw_rb E (d + 0) mX11_isHole [.int (gw_i w sp 1)] w Q7 ∧ ∀ v8 w9, Q7 v8 w9 →
((v8 = false → Q 0 w9) ∧ (v8 = true → Q (-1) w9)))) ∧ ((gw_i w sp 0) = 2 → (((gw_i w sp 1) < 0 → Q 1 w) ∧ (¬ ((gw_i w sp 1) < 0) → (((gw_i w sp 1) ≤ 1 → Q (-1) w) ∧ (¬ ((gw_i w sp 1) ≤ 1) → Q 1 w))))) ∧ ((gw_i w sp 0).toInt < 0 ∨ 2 < (gw_i w sp 0).toInt → (∃ Q10 : Bool → bw_W → Prop, bw_rb E (d + 0) mX11_hasNoun [.ref 0, .int (gw_i w sp 1)] w Q10 ∧ ∀ v11 w12, Q10 v11 w12 →
((v11 = true → ((¬ (gw_i w12 sp 0) = 3 → (∃ Q13 : Bool → bw_W → Prop, bw_rb E (d + 0) mX11_isSlot [.int (gw_i w12 sp 2), .int (gw_i w12 sp 3)] w12 Q13 ∧ ∀ v14 w15, Q13 v14 w15 →
((v14 = false → Q 1 w15) ∧ (v14 = true → Q (-1) w15)))) ∧ ((gw_i w12 sp 0) = 3 → ((¬ (gw_l w12 sp 4) = 0 → (∃ Q16 : Bool → bw_W → Prop, bw_rb E (d + 0) mX11_isSlot [.int (gw_i w12 sp 2), .int (gw_i w12 sp 3)] w12 Q16 ∧ ∀ v17 w18, Q16 v17 w18 →
((v17 = false → Q 1 w18) ∧ (v17 = true → Q (-1) w18)))) ∧ ((gw_l w12 sp 4) = 0 → (∃ Q19 : Bool → bw_W → Prop, bw_rb E (d + 0) mX11_isSlot [.int (gw_i w12 sp 2), .int (gw_i w12 sp 3)] w12 Q19 ∧ ∀ v20 w21, Q19 v20 w21 →
((v20 = false → Q 1 w21) ∧ (v20 = true → Q 1 w21)))))))) ∧ (v11 = false → Q 0 w12)))))) : bw_ri E (d + 1) mX11_boundsRefusal [.ref 0, .ref sp] w Q := by
  refine bw_enter rfl (Nat.le_of_ble_eq_true rfl) ?_
  refine bw_aload_n (i := 1) dX11_boundsRefusal_0 rfl rfl ?_
  refine bw_geti fg_BentWords_370 h_sp dX11_boundsRefusal_1 ?_
  refine bw_tabsw dX11_boundsRefusal_4 [32, 77, 93] 114 (by decide) rfl rfl (fun j hj hx => ?_) (fun hx => ?_)
  · match j, hj, hx with
    | 0, _, hx =>
      replace h := h.1 (bw_ti hx (by decide))
      refine bw_aload_n (i := 1) dX11_boundsRefusal_32 rfl rfl ?_
      refine bw_geti fg_BentWords_373 h_sp dX11_boundsRefusal_33 ?_
      obtain ⟨Q1, hr, h⟩ := h
      refine bw_cSb (As := [.int (gw_i w sp 1)]) (st := []) cs_BentWords_220 hr rfl rfl (Nat.le_of_ble_eq_true rfl) dX11_boundsRefusal_36 (fun v2 w3 hv => ?_)
      replace h := h v2 w3 hv
      clear hr
      refine bw_ifb_eq (tgt := 53) dX11_boundsRefusal_39 (by decide) (fun c => ?_) (fun c => ?_)
      · replace h := h.1 (c)
        refine bw_iconst (v := 0) dX11_boundsRefusal_53 (by decide) ?_
        exact bw_ireturn dX11_boundsRefusal_54 rfl rfl ⟨_, rfl, h⟩
      · replace h := h.2 (c)
        refine bw_aload_n (i := 0) dX11_boundsRefusal_42 rfl rfl ?_
        refine bw_aload_n (i := 1) dX11_boundsRefusal_43 rfl rfl ?_
        refine bw_geti fg_BentWords_388 h_sp dX11_boundsRefusal_44 ?_
        obtain ⟨Q4, hr, h⟩ := h
        refine bw_cVb (As := [.int (gw_i w3 sp 2)]) (st := []) cv_BentWords_180 rfl rfl hr rfl rfl (Nat.le_of_ble_eq_true rfl) dX11_boundsRefusal_47 (fun v5 w6 hv => ?_)
        replace h := h v5 w6 hv
        clear hr
        refine bw_ifb_ne (tgt := 55) dX11_boundsRefusal_50 (by decide) (fun c => ?_) (fun c => ?_)
        · replace h := h.1 (c)
          refine bw_aload_n (i := 1) dX11_boundsRefusal_55 rfl rfl ?_
          refine bw_geti fg_BentWords_391 h_sp dX11_boundsRefusal_56 ?_
          refine bw_if_lt (tgt := 71) dX11_boundsRefusal_59 (by decide) (fun c => ?_) (fun c => ?_)
          · replace h := h.1 (c)
            refine bw_iconst (v := 1) dX11_boundsRefusal_71 (by decide) ?_
            refine bw_goto (tgt := 76) dX11_boundsRefusal_72 (by decide) ?_
            exact bw_ireturn dX11_boundsRefusal_76 rfl rfl ⟨_, rfl, h⟩
          · replace h := h.2 (c)
            refine bw_aload_n (i := 1) dX11_boundsRefusal_62 rfl rfl ?_
            refine bw_geti fg_BentWords_391 h_sp dX11_boundsRefusal_63 ?_
            refine bw_bipush (v := 99) dX11_boundsRefusal_66 (by decide) ?_
            refine bw_icmp_le (tgt := 75) dX11_boundsRefusal_68 (by decide) (fun c => ?_) (fun c => ?_)
            · replace h := h.1 (c)
              refine bw_iconst (v := (-1)) dX11_boundsRefusal_75 (by decide) ?_
              exact bw_ireturn dX11_boundsRefusal_76 rfl rfl ⟨_, rfl, h⟩
            · replace h := h.2 (c)
              refine bw_iconst (v := 1) dX11_boundsRefusal_71 (by decide) ?_
              refine bw_goto (tgt := 76) dX11_boundsRefusal_72 (by decide) ?_
              exact bw_ireturn dX11_boundsRefusal_76 rfl rfl ⟨_, rfl, h⟩
        · replace h := h.2 (c)
          refine bw_iconst (v := 0) dX11_boundsRefusal_53 (by decide) ?_
          exact bw_ireturn dX11_boundsRefusal_54 rfl rfl ⟨_, rfl, h⟩
    | 1, _, hx =>
      replace h := h.2.1 (bw_ti hx (by decide))
      refine bw_aload_n (i := 1) dX11_boundsRefusal_77 rfl rfl ?_
      refine bw_geti fg_BentWords_373 h_sp dX11_boundsRefusal_78 ?_
      obtain ⟨Q7, hr, h⟩ := h
      refine bw_cSb (As := [.int (gw_i w sp 1)]) (st := []) cs_BentWords_220 hr rfl rfl (Nat.le_of_ble_eq_true rfl) dX11_boundsRefusal_81 (fun v8 w9 hv => ?_)
      replace h := h v8 w9 hv
      clear hr
      refine bw_ifb_eq (tgt := 91) dX11_boundsRefusal_84 (by decide) (fun c => ?_) (fun c => ?_)
      · replace h := h.1 (c)
        refine bw_iconst (v := 0) dX11_boundsRefusal_91 (by decide) ?_
        exact bw_ireturn dX11_boundsRefusal_92 rfl rfl ⟨_, rfl, h⟩
      · replace h := h.2 (c)
        refine bw_iconst (v := (-1)) dX11_boundsRefusal_87 (by decide) ?_
        refine bw_goto (tgt := 92) dX11_boundsRefusal_88 (by decide) ?_
        exact bw_ireturn dX11_boundsRefusal_92 rfl rfl ⟨_, rfl, h⟩
    | 2, _, hx =>
      replace h := h.2.2.1 (bw_ti hx (by decide))
      refine bw_aload_n (i := 1) dX11_boundsRefusal_93 rfl rfl ?_
      refine bw_geti fg_BentWords_373 h_sp dX11_boundsRefusal_94 ?_
      refine bw_if_lt (tgt := 108) dX11_boundsRefusal_97 (by decide) (fun c => ?_) (fun c => ?_)
      · replace h := h.1 (c)
        refine bw_iconst (v := 1) dX11_boundsRefusal_108 (by decide) ?_
        refine bw_goto (tgt := 113) dX11_boundsRefusal_109 (by decide) ?_
        exact bw_ireturn dX11_boundsRefusal_113 rfl rfl ⟨_, rfl, h⟩
      · replace h := h.2 (c)
        refine bw_aload_n (i := 1) dX11_boundsRefusal_100 rfl rfl ?_
        refine bw_geti fg_BentWords_373 h_sp dX11_boundsRefusal_101 ?_
        refine bw_iconst (v := 1) dX11_boundsRefusal_104 (by decide) ?_
        refine bw_icmp_le (tgt := 112) dX11_boundsRefusal_105 (by decide) (fun c => ?_) (fun c => ?_)
        · replace h := h.1 (c)
          refine bw_iconst (v := (-1)) dX11_boundsRefusal_112 (by decide) ?_
          exact bw_ireturn dX11_boundsRefusal_113 rfl rfl ⟨_, rfl, h⟩
        · replace h := h.2 (c)
          refine bw_iconst (v := 1) dX11_boundsRefusal_108 (by decide) ?_
          refine bw_goto (tgt := 113) dX11_boundsRefusal_109 (by decide) ?_
          exact bw_ireturn dX11_boundsRefusal_113 rfl rfl ⟨_, rfl, h⟩
    | j + 3, hj, _ => exact absurd hj (by simp)
  · replace h := h.2.2.2 hx
    refine bw_aload_n (i := 0) dX11_boundsRefusal_114 rfl rfl ?_
    refine bw_aload_n (i := 1) dX11_boundsRefusal_115 rfl rfl ?_
    refine bw_geti fg_BentWords_373 h_sp dX11_boundsRefusal_116 ?_
    obtain ⟨Q10, hr, h⟩ := h
    refine bw_cVb (As := [.int (gw_i w sp 1)]) (st := []) cv_BentWords_180 rfl rfl hr rfl rfl (Nat.le_of_ble_eq_true rfl) dX11_boundsRefusal_119 (fun v11 w12 hv => ?_)
    replace h := h v11 w12 hv
    clear hr
    refine bw_ifb_ne (tgt := 127) dX11_boundsRefusal_122 (by decide) (fun c => ?_) (fun c => ?_)
    · replace h := h.1 (c)
      refine bw_aload_n (i := 1) dX11_boundsRefusal_127 rfl rfl ?_
      refine bw_geti fg_BentWords_370 h_sp dX11_boundsRefusal_128 ?_
      refine bw_iconst (v := 3) dX11_boundsRefusal_131 (by decide) ?_
      refine bw_icmp_ne (tgt := 148) dX11_boundsRefusal_132 (by decide) (fun c => ?_) (fun c => ?_)
      · replace h := h.1 (c)
        refine bw_iconst (v := 0) dX11_boundsRefusal_148 (by decide) ?_
        refine bw_istore_n (i := 2) (L' := [some (.ref 0), some (.ref sp), some (.int 0)]) dX11_boundsRefusal_149 rfl (Nat.le_of_ble_eq_true rfl) rfl ?_
        refine bw_aload_n (i := 1) dX11_boundsRefusal_150 rfl rfl ?_
        refine bw_geti fg_BentWords_388 h_sp dX11_boundsRefusal_151 ?_
        refine bw_aload_n (i := 1) dX11_boundsRefusal_154 rfl rfl ?_
        refine bw_geti fg_BentWords_391 h_sp dX11_boundsRefusal_155 ?_
        obtain ⟨Q13, hr, h⟩ := h
        refine bw_cSb (As := [.int (gw_i w12 sp 2), .int (gw_i w12 sp 3)]) (st := []) cs_BentWords_200 hr rfl rfl (Nat.le_of_ble_eq_true rfl) dX11_boundsRefusal_158 (fun v14 w15 hv => ?_)
        replace h := h v14 w15 hv
        clear hr
        refine bw_ifb_eq (tgt := 168) dX11_boundsRefusal_161 (by decide) (fun c => ?_) (fun c => ?_)
        · replace h := h.1 (c)
          refine bw_iconst (v := 1) dX11_boundsRefusal_168 (by decide) ?_
          refine bw_goto (tgt := 173) dX11_boundsRefusal_169 (by decide) ?_
          exact bw_ireturn dX11_boundsRefusal_173 rfl rfl ⟨_, rfl, h⟩
        · replace h := h.2 (c)
          refine bw_iload_n (i := 2) dX11_boundsRefusal_164 rfl rfl ?_
          refine bw_if_eq (tgt := 172) dX11_boundsRefusal_165 (by decide) (fun _ => ?_) (fun c => absurd c (by decide))
          refine bw_iconst (v := (-1)) dX11_boundsRefusal_172 (by decide) ?_
          exact bw_ireturn dX11_boundsRefusal_173 rfl rfl ⟨_, rfl, h⟩
      · replace h := h.2 (c)
        refine bw_aload_n (i := 1) dX11_boundsRefusal_135 rfl rfl ?_
        refine bw_getl fg_BentWords_394 h_sp dX11_boundsRefusal_136 ?_
        refine bw_lconst (v := 0) dX11_boundsRefusal_139 rfl ?_
        refine bw_lcmp_ne (tgt := 148) dX11_boundsRefusal_140 dX11_boundsRefusal_141 (by decide) (fun c => ?_) (fun c => ?_)
        · replace h := h.1 (c)
          refine bw_iconst (v := 0) dX11_boundsRefusal_148 (by decide) ?_
          refine bw_istore_n (i := 2) (L' := [some (.ref 0), some (.ref sp), some (.int 0)]) dX11_boundsRefusal_149 rfl (Nat.le_of_ble_eq_true rfl) rfl ?_
          refine bw_aload_n (i := 1) dX11_boundsRefusal_150 rfl rfl ?_
          refine bw_geti fg_BentWords_388 h_sp dX11_boundsRefusal_151 ?_
          refine bw_aload_n (i := 1) dX11_boundsRefusal_154 rfl rfl ?_
          refine bw_geti fg_BentWords_391 h_sp dX11_boundsRefusal_155 ?_
          obtain ⟨Q16, hr, h⟩ := h
          refine bw_cSb (As := [.int (gw_i w12 sp 2), .int (gw_i w12 sp 3)]) (st := []) cs_BentWords_200 hr rfl rfl (Nat.le_of_ble_eq_true rfl) dX11_boundsRefusal_158 (fun v17 w18 hv => ?_)
          replace h := h v17 w18 hv
          clear hr
          refine bw_ifb_eq (tgt := 168) dX11_boundsRefusal_161 (by decide) (fun c => ?_) (fun c => ?_)
          · replace h := h.1 (c)
            refine bw_iconst (v := 1) dX11_boundsRefusal_168 (by decide) ?_
            refine bw_goto (tgt := 173) dX11_boundsRefusal_169 (by decide) ?_
            exact bw_ireturn dX11_boundsRefusal_173 rfl rfl ⟨_, rfl, h⟩
          · replace h := h.2 (c)
            refine bw_iload_n (i := 2) dX11_boundsRefusal_164 rfl rfl ?_
            refine bw_if_eq (tgt := 172) dX11_boundsRefusal_165 (by decide) (fun _ => ?_) (fun c => absurd c (by decide))
            refine bw_iconst (v := (-1)) dX11_boundsRefusal_172 (by decide) ?_
            exact bw_ireturn dX11_boundsRefusal_173 rfl rfl ⟨_, rfl, h⟩
        · replace h := h.2 (c)
          refine bw_iconst (v := 1) dX11_boundsRefusal_144 (by decide) ?_
          refine bw_goto (tgt := 149) dX11_boundsRefusal_145 (by decide) ?_
          refine bw_istore_n (i := 2) (L' := [some (.ref 0), some (.ref sp), some (.int 1)]) dX11_boundsRefusal_149 rfl (Nat.le_of_ble_eq_true rfl) rfl ?_
          refine bw_aload_n (i := 1) dX11_boundsRefusal_150 rfl rfl ?_
          refine bw_geti fg_BentWords_388 h_sp dX11_boundsRefusal_151 ?_
          refine bw_aload_n (i := 1) dX11_boundsRefusal_154 rfl rfl ?_
          refine bw_geti fg_BentWords_391 h_sp dX11_boundsRefusal_155 ?_
          obtain ⟨Q19, hr, h⟩ := h
          refine bw_cSb (As := [.int (gw_i w12 sp 2), .int (gw_i w12 sp 3)]) (st := []) cs_BentWords_200 hr rfl rfl (Nat.le_of_ble_eq_true rfl) dX11_boundsRefusal_158 (fun v20 w21 hv => ?_)
          replace h := h v20 w21 hv
          clear hr
          refine bw_ifb_eq (tgt := 168) dX11_boundsRefusal_161 (by decide) (fun c => ?_) (fun c => ?_)
          · replace h := h.1 (c)
            refine bw_iconst (v := 1) dX11_boundsRefusal_168 (by decide) ?_
            refine bw_goto (tgt := 173) dX11_boundsRefusal_169 (by decide) ?_
            exact bw_ireturn dX11_boundsRefusal_173 rfl rfl ⟨_, rfl, h⟩
          · replace h := h.2 (c)
            refine bw_iload_n (i := 2) dX11_boundsRefusal_164 rfl rfl ?_
            refine bw_if_eq (tgt := 172) dX11_boundsRefusal_165 (by decide) (fun c => absurd c (by decide)) (fun _ => ?_)
            refine bw_iconst (v := 1) dX11_boundsRefusal_168 (by decide) ?_
            refine bw_goto (tgt := 173) dX11_boundsRefusal_169 (by decide) ?_
            exact bw_ireturn dX11_boundsRefusal_173 rfl rfl ⟨_, rfl, h⟩
    · replace h := h.2 (c)
      refine bw_iconst (v := 0) dX11_boundsRefusal_125 (by decide) ?_
      exact bw_ireturn dX11_boundsRefusal_126 rfl rfl ⟨_, rfl, h⟩
theorem wfX11_filledHoles_4 {E : bw_E} {d : Nat} {w : bw_W} {Q : Int32 → bw_W → Prop} {l1 : Int32} {l2 : Int32}  (h : ((3 ≤ l2 → Q l1 w) ∧ (¬ (3 ≤ l2) → (∃ Q1 : Bool → bw_W → Prop, bw_rb E (d + 0) mX7_isOpen [.ref 31, .int l2] w Q1 ∧ ∀ v2 w3, Q1 v2 w3 →
((v2 = true → bw_G E (d + 1) mX11_filledHoles 4 [some (.ref 0), some (.int l1), some (.int (l2 + 1))] [] w3 (bw_qi Q)) ∧ (v2 = false → bw_G E (d + 1) mX11_filledHoles 4 [some (.ref 0), some (.int (l1 ||| ((1 : Int32) <<< (l2 &&& 31)))), some (.int (l2 + 1))] [] w3 (bw_qi Q))))))) : bw_G E (d + 1) mX11_filledHoles 4 [some (.ref 0), some (.int l1), some (.int l2)] [] w (bw_qi Q) := by
  refine bw_iload_n (i := 2) dX11_filledHoles_4 rfl rfl ?_
  refine bw_iconst (v := 3) dX11_filledHoles_5 (by decide) ?_
  refine bw_icmp_ge (tgt := 32) dX11_filledHoles_6 (by decide) (fun c => ?_) (fun c => ?_)
  · replace h := h.1 (c)
    refine bw_iload_n (i := 1) dX11_filledHoles_32 rfl rfl ?_
    exact bw_ireturn dX11_filledHoles_33 rfl rfl ⟨_, rfl, h⟩
  · replace h := h.2 (c)
    refine bw_aload_n (i := 0) dX11_filledHoles_9 rfl rfl ?_
    refine bw_getr (r := 31) fg_BentWords_58 rfl rfl dX11_filledHoles_10 ?_
    refine bw_iload_n (i := 2) dX11_filledHoles_13 rfl rfl ?_
    obtain ⟨Q1, hr, h⟩ := h
    refine bw_cVb (As := [.int l2]) (st := []) cv_BentWords_223 rfl rfl hr rfl rfl (Nat.le_of_ble_eq_true rfl) dX11_filledHoles_14 (fun v2 w3 hv => ?_)
    replace h := h v2 w3 hv
    clear hr
    refine bw_ifb_ne (tgt := 26) dX11_filledHoles_17 (by decide) (fun c => ?_) (fun c => ?_)
    · replace h := h.1 (c)
      refine bw_iinc (i := 2) (x := l2) (v := (l2 + 1)) (L' := [some (.ref 0), some (.int l1), some (.int (l2 + 1))]) dX11_filledHoles_26 rfl rfl (Nat.le_of_ble_eq_true rfl) rfl ?_
      refine bw_goto (tgt := 4) dX11_filledHoles_29 (by decide) ?_
      exact h
    · replace h := h.2 (c)
      refine bw_iload_n (i := 1) dX11_filledHoles_20 rfl rfl ?_
      refine bw_iconst (v := 1) dX11_filledHoles_21 (by decide) ?_
      refine bw_iload_n (i := 2) dX11_filledHoles_22 rfl rfl ?_
      refine bw_ishl dX11_filledHoles_23 ?_
      refine bw_ior dX11_filledHoles_24 ?_
      refine bw_istore_n (i := 1) (L' := [some (.ref 0), some (.int (l1 ||| ((1 : Int32) <<< (l2 &&& 31)))), some (.int l2)]) dX11_filledHoles_25 rfl (Nat.le_of_ble_eq_true rfl) rfl ?_
      refine bw_iinc (i := 2) (x := l2) (v := (l2 + 1)) (L' := [some (.ref 0), some (.int (l1 ||| ((1 : Int32) <<< (l2 &&& 31)))), some (.int (l2 + 1))]) dX11_filledHoles_26 rfl rfl (Nat.le_of_ble_eq_true rfl) rfl ?_
      refine bw_goto (tgt := 4) dX11_filledHoles_29 (by decide) ?_
      exact h
theorem wfX11_filledHoles {E : bw_E} {d : Nat} {w : bw_W} {Q : Int32 → bw_W → Prop}   (h : bw_G E (d + 1) mX11_filledHoles 4 [some (.ref 0), some (.int 0), some (.int 0)] [] w (bw_qi Q)) : bw_ri E (d + 1) mX11_filledHoles [.ref 0] w Q := by
  refine bw_enter rfl (Nat.le_of_ble_eq_true rfl) ?_
  refine bw_iconst (v := 0) dX11_filledHoles_0 (by decide) ?_
  refine bw_istore_n (i := 1) (L' := [some (.ref 0), some (.int 0), none]) dX11_filledHoles_1 rfl (Nat.le_of_ble_eq_true rfl) rfl ?_
  refine bw_iconst (v := 0) dX11_filledHoles_2 (by decide) ?_
  refine bw_istore_n (i := 2) (L' := [some (.ref 0), some (.int 0), some (.int 0)]) dX11_filledHoles_3 rfl (Nat.le_of_ble_eq_true rfl) rfl ?_
  exact h
theorem wfX11_formsToldTwice_4 {E : bw_E} {d : Nat} {w : bw_W} {Q : Int32 → bw_W → Prop} {l1 : Int32} {l2 : Int32}  (h : ((48 ≤ l2 → Q l1 w) ∧ (¬ (48 ≤ l2) → (vp_in l2 52) ∧
(((gw_l w 32 (l2.toNatClampNeg)) = 0 → bw_G E (d + 1) mX11_formsToldTwice 4 [some (.ref 0), some (.int l1), some (.int (l2 + 1))] [] w (bw_qi Q)) ∧ (¬ (gw_l w 32 (l2.toNatClampNeg)) = 0 → (∃ Q2 : Bool → bw_W → Prop, bw_rb E (d + 0) mX11_hasTwin [.ref 0, .int l2] w Q2 ∧ ∀ v3 w4, Q2 v3 w4 →
((v3 = false → bw_G E (d + 1) mX11_formsToldTwice 4 [some (.ref 0), some (.int l1), some (.int (l2 + 1))] [] w4 (bw_qi Q)) ∧ (v3 = true → bw_G E (d + 1) mX11_formsToldTwice 4 [some (.ref 0), some (.int (l1 + 1)), some (.int (l2 + 1))] [] w4 (bw_qi Q))))))))) : bw_G E (d + 1) mX11_formsToldTwice 4 [some (.ref 0), some (.int l1), some (.int l2)] [] w (bw_qi Q) := by
  refine bw_iload_n (i := 2) dX11_formsToldTwice_4 rfl rfl ?_
  refine bw_bipush (v := 48) dX11_formsToldTwice_5 (by decide) ?_
  refine bw_icmp_ge (tgt := 41) dX11_formsToldTwice_7 (by decide) (fun c => ?_) (fun c => ?_)
  · replace h := h.1 (c)
    refine bw_iload_n (i := 1) dX11_formsToldTwice_41 rfl rfl ?_
    exact bw_ireturn dX11_formsToldTwice_42 rfl rfl ⟨_, rfl, h⟩
  · replace h := h.2 (c)
    refine bw_aload_n (i := 0) dX11_formsToldTwice_10 rfl rfl ?_
    refine bw_getr (r := 31) fg_BentWords_58 rfl rfl dX11_formsToldTwice_11 ?_
    refine bw_getr (r := 32) fg_BentWords_170 rfl rfl dX11_formsToldTwice_14 ?_
    refine bw_iload_n (i := 2) dX11_formsToldTwice_17 rfl rfl ?_
    obtain ⟨hi1, h⟩ := h
    refine bw_laload rfl hi1 dX11_formsToldTwice_18 ?_
    refine bw_lconst (v := 0) dX11_formsToldTwice_19 rfl ?_
    refine bw_lcmp_eq (tgt := 35) dX11_formsToldTwice_20 dX11_formsToldTwice_21 (by decide) (fun c => ?_) (fun c => ?_)
    · replace h := h.1 (c)
      refine bw_iinc (i := 2) (x := l2) (v := (l2 + 1)) (L' := [some (.ref 0), some (.int l1), some (.int (l2 + 1))]) dX11_formsToldTwice_35 rfl rfl (Nat.le_of_ble_eq_true rfl) rfl ?_
      refine bw_goto (tgt := 4) dX11_formsToldTwice_38 (by decide) ?_
      exact h
    · replace h := h.2 (c)
      refine bw_aload_n (i := 0) dX11_formsToldTwice_24 rfl rfl ?_
      refine bw_iload_n (i := 2) dX11_formsToldTwice_25 rfl rfl ?_
      obtain ⟨Q2, hr, h⟩ := h
      refine bw_cVb (As := [.int l2]) (st := []) cv_BentWords_426 rfl rfl hr rfl rfl (Nat.le_of_ble_eq_true rfl) dX11_formsToldTwice_26 (fun v3 w4 hv => ?_)
      replace h := h v3 w4 hv
      clear hr
      refine bw_ifb_eq (tgt := 35) dX11_formsToldTwice_29 (by decide) (fun c => ?_) (fun c => ?_)
      · replace h := h.1 (c)
        refine bw_iinc (i := 2) (x := l2) (v := (l2 + 1)) (L' := [some (.ref 0), some (.int l1), some (.int (l2 + 1))]) dX11_formsToldTwice_35 rfl rfl (Nat.le_of_ble_eq_true rfl) rfl ?_
        refine bw_goto (tgt := 4) dX11_formsToldTwice_38 (by decide) ?_
        exact h
      · replace h := h.2 (c)
        refine bw_iinc (i := 1) (x := l1) (v := (l1 + 1)) (L' := [some (.ref 0), some (.int (l1 + 1)), some (.int l2)]) dX11_formsToldTwice_32 rfl rfl (Nat.le_of_ble_eq_true rfl) rfl ?_
        refine bw_iinc (i := 2) (x := l2) (v := (l2 + 1)) (L' := [some (.ref 0), some (.int (l1 + 1)), some (.int (l2 + 1))]) dX11_formsToldTwice_35 rfl rfl (Nat.le_of_ble_eq_true rfl) rfl ?_
        refine bw_goto (tgt := 4) dX11_formsToldTwice_38 (by decide) ?_
        exact h
theorem wfX11_formsToldTwice {E : bw_E} {d : Nat} {w : bw_W} {Q : Int32 → bw_W → Prop}   (h : bw_G E (d + 1) mX11_formsToldTwice 4 [some (.ref 0), some (.int 0), some (.int 0)] [] w (bw_qi Q)) : bw_ri E (d + 1) mX11_formsToldTwice [.ref 0] w Q := by
  refine bw_enter rfl (Nat.le_of_ble_eq_true rfl) ?_
  refine bw_iconst (v := 0) dX11_formsToldTwice_0 (by decide) ?_
  refine bw_istore_n (i := 1) (L' := [some (.ref 0), some (.int 0), none]) dX11_formsToldTwice_1 rfl (Nat.le_of_ble_eq_true rfl) rfl ?_
  refine bw_iconst (v := 0) dX11_formsToldTwice_2 (by decide) ?_
  refine bw_istore_n (i := 2) (L' := [some (.ref 0), some (.int 0), some (.int 0)]) dX11_formsToldTwice_3 rfl (Nat.le_of_ble_eq_true rfl) rfl ?_
  exact h
theorem wfX11_formsToldOf {E : bw_E} {d : Nat} {w : bw_W} {Q : Int32 → bw_W → Prop} {a0 : Int32}  (h : (∃ Q1 : Int32 → bw_W → Prop, bw_ri E (d + 0) mX11_wordsIn [.ref 32, .int (a0 * 8), .int ((a0 + 1) * 8)] w Q1 ∧ ∀ v2 w3, Q1 v2 w3 →
Q v2 w3)) : bw_ri E (d + 1) mX11_formsToldOf [.ref 0, .int a0] w Q := by
  refine bw_enter rfl (Nat.le_of_ble_eq_true rfl) ?_
  refine bw_aload_n (i := 0) dX11_formsToldOf_0 rfl rfl ?_
  refine bw_getr (r := 31) fg_BentWords_58 rfl rfl dX11_formsToldOf_1 ?_
  refine bw_getr (r := 32) fg_BentWords_170 rfl rfl dX11_formsToldOf_4 ?_
  refine bw_iload_n (i := 1) dX11_formsToldOf_7 rfl rfl ?_
  refine bw_bipush (v := 8) dX11_formsToldOf_8 (by decide) ?_
  refine bw_imul dX11_formsToldOf_10 ?_
  refine bw_iload_n (i := 1) dX11_formsToldOf_11 rfl rfl ?_
  refine bw_iconst (v := 1) dX11_formsToldOf_12 (by decide) ?_
  refine bw_iadd dX11_formsToldOf_13 ?_
  refine bw_bipush (v := 8) dX11_formsToldOf_14 (by decide) ?_
  refine bw_imul dX11_formsToldOf_16 ?_
  obtain ⟨Q1, hr, h⟩ := h
  refine bw_cSi (As := [.ref 32, .int (a0 * 8), .int ((a0 + 1) * 8)]) (st := []) cs_BentWords_163 hr rfl rfl (Nat.le_of_ble_eq_true rfl) dX11_formsToldOf_17 (fun v2 w3 hv => ?_)
  replace h := h v2 w3 hv
  clear hr
  exact bw_ireturn dX11_formsToldOf_20 rfl rfl ⟨_, rfl, h⟩
theorem wfX11_lettersOf_2 {E : bw_E} {d : Nat} {w : bw_W} {Q : Int32 → bw_W → Prop} {l0 : Int64} {l2 : Int32}  (h : ((8 ≤ l2 → Q l2 w) ∧ (¬ (8 ≤ l2) → (∃ Q1 : Int32 → bw_W → Prop, bw_ri E (d + 0) mX11_letterOf [.long l0, .int l2] w Q1 ∧ ∀ v2 w3, Q1 v2 w3 →
((v2 = 0 → Q l2 w3) ∧ (¬ (v2 = 0) → bw_G E (d + 1) mX11_lettersOf 2 [some (.long l0), none, some (.int (l2 + 1))] [] w3 (bw_qi Q))))))) : bw_G E (d + 1) mX11_lettersOf 2 [some (.long l0), none, some (.int l2)] [] w (bw_qi Q) := by
  refine bw_iload_n (i := 2) dX11_lettersOf_2 rfl rfl ?_
  refine bw_bipush (v := 8) dX11_lettersOf_3 (by decide) ?_
  refine bw_icmp_ge (tgt := 22) dX11_lettersOf_5 (by decide) (fun c => ?_) (fun c => ?_)
  · replace h := h.1 (c)
    refine bw_iload_n (i := 2) dX11_lettersOf_22 rfl rfl ?_
    exact bw_ireturn dX11_lettersOf_23 rfl rfl ⟨_, rfl, h⟩
  · replace h := h.2 (c)
    refine bw_lload_n (i := 0) dX11_lettersOf_8 rfl rfl ?_
    refine bw_iload_n (i := 2) dX11_lettersOf_9 rfl rfl ?_
    obtain ⟨Q1, hr, h⟩ := h
    refine bw_cSi (As := [.long l0, .int l2]) (st := []) cs_BentWords_433 hr rfl rfl (Nat.le_of_ble_eq_true rfl) dX11_lettersOf_10 (fun v2 w3 hv => ?_)
    replace h := h v2 w3 hv
    clear hr
    refine bw_if_eq (tgt := 22) dX11_lettersOf_13 (by decide) (fun c => ?_) (fun c => ?_)
    · replace h := h.1 (c)
      refine bw_iload_n (i := 2) dX11_lettersOf_22 rfl rfl ?_
      exact bw_ireturn dX11_lettersOf_23 rfl rfl ⟨_, rfl, h⟩
    · replace h := h.2 (c)
      refine bw_iinc (i := 2) (x := l2) (v := (l2 + 1)) (L' := [some (.long l0), none, some (.int (l2 + 1))]) dX11_lettersOf_16 rfl rfl (Nat.le_of_ble_eq_true rfl) rfl ?_
      refine bw_goto (tgt := 2) dX11_lettersOf_19 (by decide) ?_
      exact h
theorem wfX11_lettersOf {E : bw_E} {d : Nat} {w : bw_W} {Q : Int32 → bw_W → Prop} {a0 : Int64}  (h : bw_G E (d + 1) mX11_lettersOf 2 [some (.long a0), none, some (.int 0)] [] w (bw_qi Q)) : bw_ri E (d + 1) mX11_lettersOf [.long a0] w Q := by
  refine bw_enter rfl (Nat.le_of_ble_eq_true rfl) ?_
  refine bw_iconst (v := 0) dX11_lettersOf_0 (by decide) ?_
  refine bw_istore_n (i := 2) (L' := [some (.long a0), none, some (.int 0)]) dX11_lettersOf_1 rfl (Nat.le_of_ble_eq_true rfl) rfl ?_
  exact h
theorem wfX12_feed_6 {E : bw_E} {d : Nat} {w : bw_W} {Q : Int32 → bw_W → Prop} {l1 : Int32} {l2 : Int32} {l3 : Int32} {l4 : Int32} {l5 : Int32} {l6 : Int32} {l7 : Int32}  (h : ((20 ≤ l7 → ((((gw_i w 50 2) + l6) ≤ 480 → bw_G E (d + 1) mX12_feed 62 [some (.ref 50), some (.int l1), some (.int l2), some (.int l3), some (.int l4), some (.int l5), some (.int l6), some (.int 0), none] [] w (bw_qi Q)) ∧ (¬ (((gw_i w 50 2) + l6) ≤ 480) → Q (-1) w))) ∧ (¬ (20 ≤ l7) → (∃ Q1 : Int32 → bw_W → Prop, bw_ri E (d + 0) mX12_byteOf [.int l1, .int l2, .int l3, .int l4, .int l5, .int l7] w Q1 ∧ ∀ v2 w3, Q1 v2 w3 →
((v2 = 0 → bw_G E (d + 1) mX12_feed 6 [some (.ref 50), some (.int l1), some (.int l2), some (.int l3), some (.int l4), some (.int l5), some (.int (l6 + 0)), some (.int (l7 + 1)), none] [] w3 (bw_qi Q)) ∧ (¬ (v2 = 0) → bw_G E (d + 1) mX12_feed 6 [some (.ref 50), some (.int l1), some (.int l2), some (.int l3), some (.int l4), some (.int l5), some (.int (l6 + 1)), some (.int (l7 + 1)), none] [] w3 (bw_qi Q))))))) : bw_G E (d + 1) mX12_feed 6 [some (.ref 50), some (.int l1), some (.int l2), some (.int l3), some (.int l4), some (.int l5), some (.int l6), some (.int l7), none] [] w (bw_qi Q) := by
  refine bw_iload dX12_feed_6 rfl ?_
  refine bw_bipush (v := 20) dX12_feed_8 (by decide) ?_
  refine bw_icmp_ge (tgt := 44) dX12_feed_10 (by decide) (fun c => ?_) (fun c => ?_)
  · replace h := h.1 (c)
    refine bw_aload_n (i := 0) dX12_feed_44 rfl rfl ?_
    refine bw_geti fg_BentWordsModel_97 rfl dX12_feed_45 ?_
    refine bw_iload dX12_feed_48 rfl ?_
    refine bw_iadd dX12_feed_50 ?_
    refine bw_sipush (v := 480) dX12_feed_51 (by decide) ?_
    refine bw_icmp_le (tgt := 59) dX12_feed_54 (by decide) (fun c => ?_) (fun c => ?_)
    · replace h := h.1 (c)
      refine bw_iconst (v := 0) dX12_feed_59 (by decide) ?_
      refine bw_istore (i := 7) (L' := [some (.ref 50), some (.int l1), some (.int l2), some (.int l3), some (.int l4), some (.int l5), some (.int l6), some (.int 0), none]) dX12_feed_60 (Nat.le_of_ble_eq_true rfl) rfl ?_
      exact h
    · replace h := h.2 (c)
      refine bw_iconst (v := (-1)) dX12_feed_57 (by decide) ?_
      exact bw_ireturn dX12_feed_58 rfl rfl ⟨_, rfl, h⟩
  · replace h := h.2 (c)
    refine bw_iload dX12_feed_13 rfl ?_
    refine bw_iload_n (i := 1) dX12_feed_15 rfl rfl ?_
    refine bw_iload_n (i := 2) dX12_feed_16 rfl rfl ?_
    refine bw_iload_n (i := 3) dX12_feed_17 rfl rfl ?_
    refine bw_iload dX12_feed_18 rfl ?_
    refine bw_iload dX12_feed_20 rfl ?_
    refine bw_iload dX12_feed_22 rfl ?_
    obtain ⟨Q1, hr, h⟩ := h
    refine bw_cSi (As := [.int l1, .int l2, .int l3, .int l4, .int l5, .int l7]) (st := [.int l6]) cs_BentWordsModel_93 hr rfl rfl (Nat.le_of_ble_eq_true rfl) dX12_feed_24 (fun v2 w3 hv => ?_)
    replace h := h v2 w3 hv
    clear hr
    refine bw_if_eq (tgt := 34) dX12_feed_27 (by decide) (fun c => ?_) (fun c => ?_)
    · replace h := h.1 (c)
      refine bw_iconst (v := 0) dX12_feed_34 (by decide) ?_
      refine bw_iadd dX12_feed_35 ?_
      refine bw_istore (i := 6) (L' := [some (.ref 50), some (.int l1), some (.int l2), some (.int l3), some (.int l4), some (.int l5), some (.int (l6 + 0)), some (.int l7), none]) dX12_feed_36 (Nat.le_of_ble_eq_true rfl) rfl ?_
      refine bw_iinc (i := 7) (x := l7) (v := (l7 + 1)) (L' := [some (.ref 50), some (.int l1), some (.int l2), some (.int l3), some (.int l4), some (.int l5), some (.int (l6 + 0)), some (.int (l7 + 1)), none]) dX12_feed_38 rfl rfl (Nat.le_of_ble_eq_true rfl) rfl ?_
      refine bw_goto (tgt := 6) dX12_feed_41 (by decide) ?_
      exact h
    · replace h := h.2 (c)
      refine bw_iconst (v := 1) dX12_feed_30 (by decide) ?_
      refine bw_goto (tgt := 35) dX12_feed_31 (by decide) ?_
      refine bw_iadd dX12_feed_35 ?_
      refine bw_istore (i := 6) (L' := [some (.ref 50), some (.int l1), some (.int l2), some (.int l3), some (.int l4), some (.int l5), some (.int (l6 + 1)), some (.int l7), none]) dX12_feed_36 (Nat.le_of_ble_eq_true rfl) rfl ?_
      refine bw_iinc (i := 7) (x := l7) (v := (l7 + 1)) (L' := [some (.ref 50), some (.int l1), some (.int l2), some (.int l3), some (.int l4), some (.int l5), some (.int (l6 + 1)), some (.int (l7 + 1)), none]) dX12_feed_38 rfl rfl (Nat.le_of_ble_eq_true rfl) rfl ?_
      refine bw_goto (tgt := 6) dX12_feed_41 (by decide) ?_
      exact h
theorem wfX12_feed_62 {E : bw_E} {d : Nat} {w : bw_W} {Q : Int32 → bw_W → Prop} {l1 : Int32} {l2 : Int32} {l3 : Int32} {l4 : Int32} {l5 : Int32} {l6 : Int32} {l7 : Int32}  (h : ((20 ≤ l7 → Q (gw_i w 50 2) w) ∧ (¬ (20 ≤ l7) → (∃ Q1 : Int32 → bw_W → Prop, bw_ri E (d + 0) mX12_byteOf [.int l1, .int l2, .int l3, .int l4, .int l5, .int l7] w Q1 ∧ ∀ v2 w3, Q1 v2 w3 →
((v2 = 0 → bw_G E (d + 1) mX12_feed 62 [some (.ref 50), some (.int l1), some (.int l2), some (.int l3), some (.int l4), some (.int l5), some (.int l6), some (.int (l7 + 1)), none] [] w3 (bw_qi Q)) ∧ (¬ (v2 = 0) → (vp_in (gw_i w3 50 2) 480) ∧
bw_G E (d + 1) mX12_feed 62 [some (.ref 50), some (.int l1), some (.int l2), some (.int l3), some (.int l4), some (.int l5), some (.int l6), some (.int (l7 + 1)), none] [] (sw_i (sw_i w3 51 ((gw_i w3 50 2).toNatClampNeg) v2) 50 2 ((gw_i w3 50 2) + 1)) (bw_qi Q))))))) : bw_G E (d + 1) mX12_feed 62 [some (.ref 50), some (.int l1), some (.int l2), some (.int l3), some (.int l4), some (.int l5), some (.int l6), some (.int l7), none] [] w (bw_qi Q) := by
  refine bw_iload dX12_feed_62 rfl ?_
  refine bw_bipush (v := 20) dX12_feed_64 (by decide) ?_
  refine bw_icmp_ge (tgt := 115) dX12_feed_66 (by decide) (fun c => ?_) (fun c => ?_)
  · replace h := h.1 (c)
    refine bw_aload_n (i := 0) dX12_feed_115 rfl rfl ?_
    refine bw_geti fg_BentWordsModel_97 rfl dX12_feed_116 ?_
    exact bw_ireturn dX12_feed_119 rfl rfl ⟨_, rfl, h⟩
  · replace h := h.2 (c)
    refine bw_iload_n (i := 1) dX12_feed_69 rfl rfl ?_
    refine bw_iload_n (i := 2) dX12_feed_70 rfl rfl ?_
    refine bw_iload_n (i := 3) dX12_feed_71 rfl rfl ?_
    refine bw_iload dX12_feed_72 rfl ?_
    refine bw_iload dX12_feed_74 rfl ?_
    refine bw_iload dX12_feed_76 rfl ?_
    obtain ⟨Q1, hr, h⟩ := h
    refine bw_cSi (As := [.int l1, .int l2, .int l3, .int l4, .int l5, .int l7]) (st := []) cs_BentWordsModel_93 hr rfl rfl (Nat.le_of_ble_eq_true rfl) dX12_feed_78 (fun v2 w3 hv => ?_)
    replace h := h v2 w3 hv
    clear hr
    refine bw_istore (i := 8) (L' := [some (.ref 50), some (.int l1), some (.int l2), some (.int l3), some (.int l4), some (.int l5), some (.int l6), some (.int l7), some (.int v2)]) dX12_feed_81 (Nat.le_of_ble_eq_true rfl) rfl ?_
    refine bw_iload dX12_feed_83 rfl ?_
    refine bw_if_eq (tgt := 109) dX12_feed_85 (by decide) (fun c => ?_) (fun c => ?_)
    · replace h := h.1 (c)
      refine bw_iinc (i := 7) (x := l7) (v := (l7 + 1)) (L' := [some (.ref 50), some (.int l1), some (.int l2), some (.int l3), some (.int l4), some (.int l5), some (.int l6), some (.int (l7 + 1)), some (.int v2)]) dX12_feed_109 rfl rfl (Nat.le_of_ble_eq_true rfl) rfl ?_
      refine bw_goto (tgt := 62) dX12_feed_112 (by decide) ?_
      exact bw_wk [8] rfl h
    · replace h := h.2 (c)
      refine bw_aload_n (i := 0) dX12_feed_88 rfl rfl ?_
      refine bw_getr (r := 51) fg_BentWordsModel_9 rfl rfl dX12_feed_89 ?_
      refine bw_aload_n (i := 0) dX12_feed_92 rfl rfl ?_
      refine bw_geti fg_BentWordsModel_97 rfl dX12_feed_93 ?_
      refine bw_iload dX12_feed_96 rfl ?_
      obtain ⟨hi4, h⟩ := h
      refine bw_iastore rfl hi4 dX12_feed_98 ?_
      refine bw_aload_n (i := 0) dX12_feed_99 rfl rfl ?_
      refine bw_dup dX12_feed_100 rfl ?_
      refine bw_geti fg_BentWordsModel_97 rfl dX12_feed_101 ?_
      rw [show gw_i (sw_i w3 51 ((gw_i w3 50 2).toNatClampNeg) v2) 50 2 = (gw_i w3 50 2) from rfl]
      refine bw_iconst (v := 1) dX12_feed_104 (by decide) ?_
      refine bw_iadd dX12_feed_105 ?_
      refine bw_puti fp_BentWordsModel_97 rfl rfl rfl dX12_feed_106 ?_
      refine bw_iinc (i := 7) (x := l7) (v := (l7 + 1)) (L' := [some (.ref 50), some (.int l1), some (.int l2), some (.int l3), some (.int l4), some (.int l5), some (.int l6), some (.int (l7 + 1)), some (.int v2)]) dX12_feed_109 rfl rfl (Nat.le_of_ble_eq_true rfl) rfl ?_
      refine bw_goto (tgt := 62) dX12_feed_112 (by decide) ?_
      exact bw_wk [8] rfl h
theorem wfX12_feed {E : bw_E} {d : Nat} {w : bw_W} {Q : Int32 → bw_W → Prop} {a0 : Int32} {a1 : Int32} {a2 : Int32} {a3 : Int32} {a4 : Int32}  (h : bw_G E (d + 1) mX12_feed 6 [some (.ref 50), some (.int a0), some (.int a1), some (.int a2), some (.int a3), some (.int a4), some (.int 0), some (.int 0), none] [] w (bw_qi Q)) : bw_ri E (d + 1) mX12_feed [.ref 50, .int a0, .int a1, .int a2, .int a3, .int a4] w Q := by
  refine bw_enter rfl (Nat.le_of_ble_eq_true rfl) ?_
  refine bw_iconst (v := 0) dX12_feed_0 (by decide) ?_
  refine bw_istore (i := 6) (L' := [some (.ref 50), some (.int a0), some (.int a1), some (.int a2), some (.int a3), some (.int a4), some (.int 0), none, none]) dX12_feed_1 (Nat.le_of_ble_eq_true rfl) rfl ?_
  refine bw_iconst (v := 0) dX12_feed_3 (by decide) ?_
  refine bw_istore (i := 7) (L' := [some (.ref 50), some (.int a0), some (.int a1), some (.int a2), some (.int a3), some (.int a4), some (.int 0), some (.int 0), none]) dX12_feed_4 (Nat.le_of_ble_eq_true rfl) rfl ?_
  exact h
theorem wfX12_end {E : bw_E} {d : Nat} {w : bw_W} {Q : Bool → bw_W → Prop} {a0 : Int32}  (h : (∃ Q1 : Bool → bw_W → Prop, bw_rb E (d + 0) mX12_in [.int a0, .int 0, .int (gw_i w 50 2)] w Q1 ∧ ∀ v2 w3, Q1 v2 w3 →
((v2 = true → Q true (sw_i w3 50 2 a0)) ∧ (v2 = false → Q false w3)))) : bw_rb E (d + 1) mX12_end [.ref 50, .int a0] w Q := by
  refine bw_enter rfl (Nat.le_of_ble_eq_true rfl) ?_
  refine bw_iload_n (i := 1) dX12_end_0 rfl rfl ?_
  refine bw_iconst (v := 0) dX12_end_1 (by decide) ?_
  refine bw_aload_n (i := 0) dX12_end_2 rfl rfl ?_
  refine bw_geti fg_BentWordsModel_97 rfl dX12_end_3 ?_
  obtain ⟨Q1, hr, h⟩ := h
  refine bw_cSb (As := [.int a0, .int 0, .int (gw_i w 50 2)]) (st := []) cs_BentWordsModel_100 hr rfl rfl (Nat.le_of_ble_eq_true rfl) dX12_end_6 (fun v2 w3 hv => ?_)
  replace h := h v2 w3 hv
  clear hr
  refine bw_ifb_ne (tgt := 14) dX12_end_9 (by decide) (fun c => ?_) (fun c => ?_)
  · replace h := h.1 (c)
    refine bw_aload_n (i := 0) dX12_end_14 rfl rfl ?_
    refine bw_iload_n (i := 1) dX12_end_15 rfl rfl ?_
    refine bw_puti fp_BentWordsModel_97 rfl rfl rfl dX12_end_16 ?_
    refine bw_iconst (v := 1) dX12_end_19 (by decide) ?_
    exact bw_ireturn dX12_end_20 rfl (bw_nb true) ⟨true, rfl, h⟩
  · replace h := h.2 (c)
    refine bw_iconst (v := 0) dX12_end_12 (by decide) ?_
    exact bw_ireturn dX12_end_13 rfl (bw_nb false) ⟨false, rfl, h⟩
theorem wfX12_readWord_10 {E : bw_E} {d : Nat} {w : bw_W} {Q : bw_W → Prop}   (h : (∃ Q1 : Int32 → bw_W → Prop, bw_ri E (d + 0) mX12_here [.ref 50] w Q1 ∧ ∀ v2 w3, Q1 v2 w3 →
(∃ Q4 : Bool → bw_W → Prop, bw_rb E (d + 0) mX12_isLetter [.int v2] w3 Q4 ∧ ∀ v5 w6, Q4 v5 w6 →
((v5 = false → Q (sw_i w6 50 4 1)) ∧ (v5 = true → ((8 ≤ (gw_i w6 50 9) → bw_G E (d + 1) mX12_readWord 10 [some (.ref 50)] [] (sw_i (sw_i (sw_l w6 50 11 0) 50 9 ((gw_i w6 50 9) + 1)) 50 3 ((gw_i w6 50 3) + 1)) (bw_qv Q)) ∧ (¬ (8 ≤ (gw_i w6 50 9)) → (∃ Q7 : Int32 → bw_W → Prop, bw_ri E (d + 0) mX12_here [.ref 50] w6 Q7 ∧ ∀ v8 w9, Q7 v8 w9 →
bw_G E (d + 1) mX12_readWord 10 [some (.ref 50)] [] (sw_i (sw_i (sw_l w9 50 11 ((((27 * (gw_l w6 50 11)) + (v8.toInt64)) - 97) + 1)) 50 9 ((gw_i w9 50 9) + 1)) 50 3 ((gw_i w9 50 3) + 1)) (bw_qv Q))))))))) : bw_G E (d + 1) mX12_readWord 10 [some (.ref 50)] [] w (bw_qv Q) := by
  refine bw_aload_n (i := 0) dX12_readWord_10 rfl rfl ?_
  obtain ⟨Q1, hr, h⟩ := h
  refine bw_cVi (As := []) (st := []) cv_BentWordsModel_114 rfl rfl hr rfl rfl (Nat.le_of_ble_eq_true rfl) dX12_readWord_11 (fun v2 w3 hv => ?_)
  replace h := h v2 w3 hv
  clear hr
  obtain ⟨Q4, hr, h⟩ := h
  refine bw_cSb (As := [.int v2]) (st := []) cs_BentWordsModel_118 hr rfl rfl (Nat.le_of_ble_eq_true rfl) dX12_readWord_14 (fun v5 w6 hv => ?_)
  replace h := h v5 w6 hv
  clear hr
  refine bw_ifb_eq (tgt := 80) dX12_readWord_17 (by decide) (fun c => ?_) (fun c => ?_)
  · replace h := h.1 (c)
    refine bw_aload_n (i := 0) dX12_readWord_80 rfl rfl ?_
    refine bw_iconst (v := 1) dX12_readWord_81 (by decide) ?_
    refine bw_puti fp_BentWordsModel_126 rfl rfl rfl dX12_readWord_82 ?_
    exact bw_return dX12_readWord_85 rfl ⟨rfl, h⟩
  · replace h := h.2 (c)
    refine bw_aload_n (i := 0) dX12_readWord_20 rfl rfl ?_
    refine bw_aload_n (i := 0) dX12_readWord_21 rfl rfl ?_
    refine bw_geti fg_BentWordsModel_111 rfl dX12_readWord_22 ?_
    refine bw_bipush (v := 8) dX12_readWord_25 (by decide) ?_
    refine bw_icmp_ge (tgt := 53) dX12_readWord_27 (by decide) (fun c => ?_) (fun c => ?_)
    · replace h := h.1 (c)
      refine bw_lconst (v := 0) dX12_readWord_53 rfl ?_
      refine bw_putl fp_BentWordsModel_107 rfl dX12_readWord_54 ?_
      refine bw_aload_n (i := 0) dX12_readWord_57 rfl rfl ?_
      refine bw_dup dX12_readWord_58 rfl ?_
      refine bw_geti fg_BentWordsModel_111 rfl dX12_readWord_59 ?_
      rw [show gw_i (sw_l w6 50 11 0) 50 9 = (gw_i w6 50 9) from rfl]
      refine bw_iconst (v := 1) dX12_readWord_62 (by decide) ?_
      refine bw_iadd dX12_readWord_63 ?_
      refine bw_puti fp_BentWordsModel_111 rfl rfl rfl dX12_readWord_64 ?_
      refine bw_aload_n (i := 0) dX12_readWord_67 rfl rfl ?_
      refine bw_dup dX12_readWord_68 rfl ?_
      refine bw_geti fg_BentWordsModel_104 rfl dX12_readWord_69 ?_
      rw [show gw_i (sw_i (sw_l w6 50 11 0) 50 9 ((gw_i w6 50 9) + 1)) 50 3 = (gw_i w6 50 3) from rfl]
      refine bw_iconst (v := 1) dX12_readWord_72 (by decide) ?_
      refine bw_iadd dX12_readWord_73 ?_
      refine bw_puti fp_BentWordsModel_104 rfl rfl rfl dX12_readWord_74 ?_
      refine bw_goto (tgt := 10) dX12_readWord_77 (by decide) ?_
      exact h
    · replace h := h.2 (c)
      refine bw_ldc2 kl_BentWordsModel_122 dX12_readWord_30 ?_
      refine bw_aload_n (i := 0) dX12_readWord_33 rfl rfl ?_
      refine bw_getl fg_BentWordsModel_107 rfl dX12_readWord_34 ?_
      refine bw_lmul dX12_readWord_37 ?_
      refine bw_aload_n (i := 0) dX12_readWord_38 rfl rfl ?_
      obtain ⟨Q7, hr, h⟩ := h
      refine bw_cVi (As := []) (st := [.long (27 * (gw_l w6 50 11)), .ref 50]) cv_BentWordsModel_114 rfl rfl hr rfl rfl (Nat.le_of_ble_eq_true rfl) dX12_readWord_39 (fun v8 w9 hv => ?_)
      replace h := h v8 w9 hv
      clear hr
      refine bw_i2l dX12_readWord_42 ?_
      refine bw_ladd dX12_readWord_43 ?_
      refine bw_ldc2 kl_BentWordsModel_124 dX12_readWord_44 ?_
      refine bw_lsub dX12_readWord_47 ?_
      refine bw_lconst (v := 1) dX12_readWord_48 rfl ?_
      refine bw_ladd dX12_readWord_49 ?_
      refine bw_goto (tgt := 54) dX12_readWord_50 (by decide) ?_
      refine bw_putl fp_BentWordsModel_107 rfl dX12_readWord_54 ?_
      refine bw_aload_n (i := 0) dX12_readWord_57 rfl rfl ?_
      refine bw_dup dX12_readWord_58 rfl ?_
      refine bw_geti fg_BentWordsModel_111 rfl dX12_readWord_59 ?_
      rw [show gw_i (sw_l w9 50 11 ((((27 * (gw_l w6 50 11)) + (v8.toInt64)) - 97) + 1)) 50 9 = (gw_i w9 50 9) from rfl]
      refine bw_iconst (v := 1) dX12_readWord_62 (by decide) ?_
      refine bw_iadd dX12_readWord_63 ?_
      refine bw_puti fp_BentWordsModel_111 rfl rfl rfl dX12_readWord_64 ?_
      refine bw_aload_n (i := 0) dX12_readWord_67 rfl rfl ?_
      refine bw_dup dX12_readWord_68 rfl ?_
      refine bw_geti fg_BentWordsModel_104 rfl dX12_readWord_69 ?_
      rw [show gw_i (sw_i (sw_l w9 50 11 ((((27 * (gw_l w6 50 11)) + (v8.toInt64)) - 97) + 1)) 50 9 ((gw_i w9 50 9) + 1)) 50 3 = (gw_i w9 50 3) from rfl]
      refine bw_iconst (v := 1) dX12_readWord_72 (by decide) ?_
      refine bw_iadd dX12_readWord_73 ?_
      refine bw_puti fp_BentWordsModel_104 rfl rfl rfl dX12_readWord_74 ?_
      refine bw_goto (tgt := 10) dX12_readWord_77 (by decide) ?_
      exact h
theorem wfX12_readWord {E : bw_E} {d : Nat} {w : bw_W} {Q : bw_W → Prop}   (h : bw_G E (d + 1) mX12_readWord 10 [some (.ref 50)] [] (sw_i (sw_l w 50 11 0) 50 9 0) (bw_qv Q)) : bw_rv E (d + 1) mX12_readWord [.ref 50] w Q := by
  refine bw_enter rfl (Nat.le_of_ble_eq_true rfl) ?_
  refine bw_aload_n (i := 0) dX12_readWord_0 rfl rfl ?_
  refine bw_lconst (v := 0) dX12_readWord_1 rfl ?_
  refine bw_putl fp_BentWordsModel_107 rfl dX12_readWord_2 ?_
  refine bw_aload_n (i := 0) dX12_readWord_5 rfl rfl ?_
  refine bw_iconst (v := 0) dX12_readWord_6 (by decide) ?_
  refine bw_puti fp_BentWordsModel_111 rfl rfl rfl dX12_readWord_7 ?_
  exact h
theorem wfX12_readNumber_10 {E : bw_E} {d : Nat} {w : bw_W} {Q : bw_W → Prop}   (h : (∃ Q1 : Int32 → bw_W → Prop, bw_ri E (d + 0) mX12_here [.ref 50] w Q1 ∧ ∀ v2 w3, Q1 v2 w3 →
(∃ Q4 : Bool → bw_W → Prop, bw_rb E (d + 0) mX12_isDigit [.int v2] w3 Q4 ∧ ∀ v5 w6, Q4 v5 w6 →
((v5 = false → Q (sw_i w6 50 4 2)) ∧ (v5 = true → ((2 ≤ (gw_i w6 50 7) → bw_G E (d + 1) mX12_readNumber 10 [some (.ref 50)] [] (sw_i (sw_i (sw_i w6 50 6 0) 50 7 ((gw_i w6 50 7) + 1)) 50 3 ((gw_i w6 50 3) + 1)) (bw_qv Q)) ∧ (¬ (2 ≤ (gw_i w6 50 7)) → (∃ Q7 : Int32 → bw_W → Prop, bw_ri E (d + 0) mX12_here [.ref 50] w6 Q7 ∧ ∀ v8 w9, Q7 v8 w9 →
bw_G E (d + 1) mX12_readNumber 10 [some (.ref 50)] [] (sw_i (sw_i (sw_i w9 50 6 (((10 * (gw_i w6 50 6)) + v8) - 48)) 50 7 ((gw_i w9 50 7) + 1)) 50 3 ((gw_i w9 50 3) + 1)) (bw_qv Q))))))))) : bw_G E (d + 1) mX12_readNumber 10 [some (.ref 50)] [] w (bw_qv Q) := by
  refine bw_aload_n (i := 0) dX12_readNumber_10 rfl rfl ?_
  obtain ⟨Q1, hr, h⟩ := h
  refine bw_cVi (As := []) (st := []) cv_BentWordsModel_114 rfl rfl hr rfl rfl (Nat.le_of_ble_eq_true rfl) dX12_readNumber_11 (fun v2 w3 hv => ?_)
  replace h := h v2 w3 hv
  clear hr
  obtain ⟨Q4, hr, h⟩ := h
  refine bw_cSb (As := [.int v2]) (st := []) cs_BentWordsModel_135 hr rfl rfl (Nat.le_of_ble_eq_true rfl) dX12_readNumber_14 (fun v5 w6 hv => ?_)
  replace h := h v5 w6 hv
  clear hr
  refine bw_ifb_eq (tgt := 74) dX12_readNumber_17 (by decide) (fun c => ?_) (fun c => ?_)
  · replace h := h.1 (c)
    refine bw_aload_n (i := 0) dX12_readNumber_74 rfl rfl ?_
    refine bw_iconst (v := 2) dX12_readNumber_75 (by decide) ?_
    refine bw_puti fp_BentWordsModel_126 rfl rfl rfl dX12_readNumber_76 ?_
    exact bw_return dX12_readNumber_79 rfl ⟨rfl, h⟩
  · replace h := h.2 (c)
    refine bw_aload_n (i := 0) dX12_readNumber_20 rfl rfl ?_
    refine bw_aload_n (i := 0) dX12_readNumber_21 rfl rfl ?_
    refine bw_geti fg_BentWordsModel_132 rfl dX12_readNumber_22 ?_
    refine bw_iconst (v := 2) dX12_readNumber_25 (by decide) ?_
    refine bw_icmp_ge (tgt := 47) dX12_readNumber_26 (by decide) (fun c => ?_) (fun c => ?_)
    · replace h := h.1 (c)
      refine bw_iconst (v := 0) dX12_readNumber_47 (by decide) ?_
      refine bw_puti fp_BentWordsModel_129 rfl rfl rfl dX12_readNumber_48 ?_
      refine bw_aload_n (i := 0) dX12_readNumber_51 rfl rfl ?_
      refine bw_dup dX12_readNumber_52 rfl ?_
      refine bw_geti fg_BentWordsModel_132 rfl dX12_readNumber_53 ?_
      rw [show gw_i (sw_i w6 50 6 0) 50 7 = (gw_i w6 50 7) from rfl]
      refine bw_iconst (v := 1) dX12_readNumber_56 (by decide) ?_
      refine bw_iadd dX12_readNumber_57 ?_
      refine bw_puti fp_BentWordsModel_132 rfl rfl rfl dX12_readNumber_58 ?_
      refine bw_aload_n (i := 0) dX12_readNumber_61 rfl rfl ?_
      refine bw_dup dX12_readNumber_62 rfl ?_
      refine bw_geti fg_BentWordsModel_104 rfl dX12_readNumber_63 ?_
      rw [show gw_i (sw_i (sw_i w6 50 6 0) 50 7 ((gw_i w6 50 7) + 1)) 50 3 = (gw_i w6 50 3) from rfl]
      refine bw_iconst (v := 1) dX12_readNumber_66 (by decide) ?_
      refine bw_iadd dX12_readNumber_67 ?_
      refine bw_puti fp_BentWordsModel_104 rfl rfl rfl dX12_readNumber_68 ?_
      refine bw_goto (tgt := 10) dX12_readNumber_71 (by decide) ?_
      exact h
    · replace h := h.2 (c)
      refine bw_bipush (v := 10) dX12_readNumber_29 (by decide) ?_
      refine bw_aload_n (i := 0) dX12_readNumber_31 rfl rfl ?_
      refine bw_geti fg_BentWordsModel_129 rfl dX12_readNumber_32 ?_
      refine bw_imul dX12_readNumber_35 ?_
      refine bw_aload_n (i := 0) dX12_readNumber_36 rfl rfl ?_
      obtain ⟨Q7, hr, h⟩ := h
      refine bw_cVi (As := []) (st := [.int (10 * (gw_i w6 50 6)), .ref 50]) cv_BentWordsModel_114 rfl rfl hr rfl rfl (Nat.le_of_ble_eq_true rfl) dX12_readNumber_37 (fun v8 w9 hv => ?_)
      replace h := h v8 w9 hv
      clear hr
      refine bw_iadd dX12_readNumber_40 ?_
      refine bw_bipush (v := 48) dX12_readNumber_41 (by decide) ?_
      refine bw_isub dX12_readNumber_43 ?_
      refine bw_goto (tgt := 48) dX12_readNumber_44 (by decide) ?_
      refine bw_puti fp_BentWordsModel_129 rfl rfl rfl dX12_readNumber_48 ?_
      refine bw_aload_n (i := 0) dX12_readNumber_51 rfl rfl ?_
      refine bw_dup dX12_readNumber_52 rfl ?_
      refine bw_geti fg_BentWordsModel_132 rfl dX12_readNumber_53 ?_
      rw [show gw_i (sw_i w9 50 6 (((10 * (gw_i w6 50 6)) + v8) - 48)) 50 7 = (gw_i w9 50 7) from rfl]
      refine bw_iconst (v := 1) dX12_readNumber_56 (by decide) ?_
      refine bw_iadd dX12_readNumber_57 ?_
      refine bw_puti fp_BentWordsModel_132 rfl rfl rfl dX12_readNumber_58 ?_
      refine bw_aload_n (i := 0) dX12_readNumber_61 rfl rfl ?_
      refine bw_dup dX12_readNumber_62 rfl ?_
      refine bw_geti fg_BentWordsModel_104 rfl dX12_readNumber_63 ?_
      rw [show gw_i (sw_i (sw_i w9 50 6 (((10 * (gw_i w6 50 6)) + v8) - 48)) 50 7 ((gw_i w9 50 7) + 1)) 50 3 = (gw_i w9 50 3) from rfl]
      refine bw_iconst (v := 1) dX12_readNumber_66 (by decide) ?_
      refine bw_iadd dX12_readNumber_67 ?_
      refine bw_puti fp_BentWordsModel_104 rfl rfl rfl dX12_readNumber_68 ?_
      refine bw_goto (tgt := 10) dX12_readNumber_71 (by decide) ?_
      exact h
theorem wfX12_readNumber {E : bw_E} {d : Nat} {w : bw_W} {Q : bw_W → Prop}   (h : bw_G E (d + 1) mX12_readNumber 10 [some (.ref 50)] [] (sw_i (sw_i w 50 6 0) 50 7 0) (bw_qv Q)) : bw_rv E (d + 1) mX12_readNumber [.ref 50] w Q := by
  refine bw_enter rfl (Nat.le_of_ble_eq_true rfl) ?_
  refine bw_aload_n (i := 0) dX12_readNumber_0 rfl rfl ?_
  refine bw_iconst (v := 0) dX12_readNumber_1 (by decide) ?_
  refine bw_puti fp_BentWordsModel_129 rfl rfl rfl dX12_readNumber_2 ?_
  refine bw_aload_n (i := 0) dX12_readNumber_5 rfl rfl ?_
  refine bw_iconst (v := 0) dX12_readNumber_6 (by decide) ?_
  refine bw_puti fp_BentWordsModel_132 rfl rfl rfl dX12_readNumber_7 ?_
  exact h
