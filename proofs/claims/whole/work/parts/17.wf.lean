theorem wfX6_findFault_9 {E : bw_E} {d : Nat} {w : bw_W} {Q : Int32 → bw_W → Prop} {sc : Nat} {l2 : Int32} (h_sc : bw_sh sc = (0, 5, 2)) (h : ((12 ≤ l2 → Q (gw_i w 3 1) w) ∧ (¬ (12 ≤ l2) → (bw_sh (bw_rf sc 1) = (5, 12, 0)) ∧
(vp_in l2 12) ∧
(∃ Q3 : Bool → bw_W → Prop, bw_rb E (d + 7) mX6_readStep [.ref 17, .ref (bw_rf (bw_rf sc 1) (l2.toNatClampNeg))] w Q3 ∧ ∀ v4 w5, Q3 v4 w5 →
((v4 = true → (∃ Q6 : Bool → bw_W → Prop, bw_rb E (d + 7) mX0_isAtEnd [.ref 3] (sw_i w5 sc 0 (l2 + 1)) Q6 ∧ ∀ v7 w8, Q6 v7 w8 →
((v7 = false → (((gw_i w8 sc 0) = 12 → Q (gw_i w8 3 1) w8) ∧ (¬ ((gw_i w8 sc 0) = 12) → (∃ Q9 : Int32 → bw_W → Prop, bw_ri E (d + 7) mX0_nextSign [.ref 3] w8 Q9 ∧ ∀ v10 w11, Q9 v10 w11 →
((v10 = 59 → bw_G E (d + 8) mX6_findFault 9 [some (.ref 17), some (.ref sc), some (.int (l2 + 1))] [] (sw_i w11 3 1 ((gw_i w11 3 1) + 1)) (bw_qi Q)) ∧ (¬ (v10 = 59) → Q (gw_i w11 3 1) w11)))))) ∧ (v7 = true → Q (-1) w8)))) ∧ (v4 = false → Q (gw_i w5 3 3) w5)))))) : bw_G E (d + 8) mX6_findFault 9 [some (.ref 17), some (.ref sc), some (.int l2)] [] w (bw_qi Q) := by
  refine bw_iload_n (i := 2) dX6_findFault_9 rfl rfl ?_
  refine bw_bipush (v := 12) dX6_findFault_10 (by decide) ?_
  refine bw_icmp_ge (tgt := 103) dX6_findFault_12 (by decide) (fun c => ?_) (fun c => ?_)
  · replace h := h.1 (c)
    refine bw_aload_n (i := 0) dX6_findFault_103 rfl rfl ?_
    refine bw_getr (r := 3) fg_BentWords_ScriptReader_9 rfl rfl dX6_findFault_104 ?_
    refine bw_geti fg_BentWords_ScriptReader_45 rfl dX6_findFault_107 ?_
    exact bw_ireturn dX6_findFault_110 rfl rfl ⟨_, rfl, h⟩
  · replace h := h.2 (c)
    refine bw_aload_n (i := 0) dX6_findFault_15 rfl rfl ?_
    refine bw_aload_n (i := 1) dX6_findFault_16 rfl rfl ?_
    refine bw_getr (r := (bw_rf sc 1)) fg_BentWords_ScriptReader_20 h_sc rfl dX6_findFault_17 ?_
    refine bw_iload_n (i := 2) dX6_findFault_20 rfl rfl ?_
    obtain ⟨hs1, h⟩ := h
    obtain ⟨hi2, h⟩ := h
    refine bw_aaload5 (r := (bw_rf (bw_rf sc 1) (l2.toNatClampNeg))) hs1 hi2 rfl dX6_findFault_21 ?_
    obtain ⟨Q3, hr, h⟩ := h
    refine bw_cVb (As := [.ref (bw_rf (bw_rf sc 1) (l2.toNatClampNeg))]) (st := []) cv_BentWords_ScriptReader_26 rfl rfl hr rfl rfl (Nat.le_of_ble_eq_true rfl) dX6_findFault_22 (fun v4 w5 hv => ?_)
    replace h := h v4 w5 hv
    clear hr
    refine bw_ifb_ne (tgt := 36) dX6_findFault_25 (by decide) (fun c => ?_) (fun c => ?_)
    · replace h := h.1 (c)
      refine bw_aload_n (i := 1) dX6_findFault_36 rfl rfl ?_
      refine bw_iload_n (i := 2) dX6_findFault_37 rfl rfl ?_
      refine bw_iconst (v := 1) dX6_findFault_38 (by decide) ?_
      refine bw_iadd dX6_findFault_39 ?_
      refine bw_puti fp_BentWords_ScriptReader_34 h_sc rfl rfl dX6_findFault_40 ?_
      refine bw_aload_n (i := 0) dX6_findFault_43 rfl rfl ?_
      refine bw_getr (r := 3) fg_BentWords_ScriptReader_9 rfl rfl dX6_findFault_44 ?_
      obtain ⟨Q6, hr, h⟩ := h
      refine bw_cVb (As := []) (st := []) cv_BentWords_ScriptReader_37 rfl rfl hr rfl rfl (Nat.le_of_ble_eq_true rfl) dX6_findFault_47 (fun v7 w8 hv => ?_)
      replace h := h v7 w8 hv
      clear hr
      refine bw_ifb_eq (tgt := 55) dX6_findFault_50 (by decide) (fun c => ?_) (fun c => ?_)
      · replace h := h.1 (c)
        refine bw_aload_n (i := 1) dX6_findFault_55 rfl rfl ?_
        refine bw_geti fg_BentWords_ScriptReader_34 h_sc dX6_findFault_56 ?_
        refine bw_bipush (v := 12) dX6_findFault_59 (by decide) ?_
        refine bw_icmp_eq (tgt := 76) dX6_findFault_61 (by decide) (fun c => ?_) (fun c => ?_)
        · replace h := h.1 (c)
          refine bw_aload_n (i := 0) dX6_findFault_76 rfl rfl ?_
          refine bw_getr (r := 3) fg_BentWords_ScriptReader_9 rfl rfl dX6_findFault_77 ?_
          refine bw_geti fg_BentWords_ScriptReader_45 rfl dX6_findFault_80 ?_
          exact bw_ireturn dX6_findFault_83 rfl rfl ⟨_, rfl, h⟩
        · replace h := h.2 (c)
          refine bw_aload_n (i := 0) dX6_findFault_64 rfl rfl ?_
          refine bw_getr (r := 3) fg_BentWords_ScriptReader_9 rfl rfl dX6_findFault_65 ?_
          obtain ⟨Q9, hr, h⟩ := h
          refine bw_cVi (As := []) (st := []) cv_BentWords_ScriptReader_41 rfl rfl hr rfl rfl (Nat.le_of_ble_eq_true rfl) dX6_findFault_68 (fun v10 w11 hv => ?_)
          replace h := h v10 w11 hv
          clear hr
          refine bw_bipush (v := 59) dX6_findFault_71 (by decide) ?_
          refine bw_icmp_eq (tgt := 84) dX6_findFault_73 (by decide) (fun c => ?_) (fun c => ?_)
          · replace h := h.1 (c)
            refine bw_aload_n (i := 0) dX6_findFault_84 rfl rfl ?_
            refine bw_getr (r := 3) fg_BentWords_ScriptReader_9 rfl rfl dX6_findFault_85 ?_
            refine bw_dup dX6_findFault_88 rfl ?_
            refine bw_geti fg_BentWords_ScriptReader_45 rfl dX6_findFault_89 ?_
            refine bw_iconst (v := 1) dX6_findFault_92 (by decide) ?_
            refine bw_iadd dX6_findFault_93 ?_
            refine bw_puti fp_BentWords_ScriptReader_45 rfl rfl rfl dX6_findFault_94 ?_
            refine bw_iinc (i := 2) (x := l2) (v := (l2 + 1)) (L' := [some (.ref 17), some (.ref sc), some (.int (l2 + 1))]) dX6_findFault_97 rfl rfl (Nat.le_of_ble_eq_true rfl) rfl ?_
            refine bw_goto (tgt := 9) dX6_findFault_100 (by decide) ?_
            exact h
          · replace h := h.2 (c)
            refine bw_aload_n (i := 0) dX6_findFault_76 rfl rfl ?_
            refine bw_getr (r := 3) fg_BentWords_ScriptReader_9 rfl rfl dX6_findFault_77 ?_
            refine bw_geti fg_BentWords_ScriptReader_45 rfl dX6_findFault_80 ?_
            exact bw_ireturn dX6_findFault_83 rfl rfl ⟨_, rfl, h⟩
      · replace h := h.2 (c)
        refine bw_iconst (v := (-1)) dX6_findFault_53 (by decide) ?_
        exact bw_ireturn dX6_findFault_54 rfl rfl ⟨_, rfl, h⟩
    · replace h := h.2 (c)
      refine bw_aload_n (i := 0) dX6_findFault_28 rfl rfl ?_
      refine bw_getr (r := 3) fg_BentWords_ScriptReader_9 rfl rfl dX6_findFault_29 ?_
      refine bw_geti fg_BentWords_ScriptReader_30 rfl dX6_findFault_32 ?_
      exact bw_ireturn dX6_findFault_35 rfl rfl ⟨_, rfl, h⟩
theorem wfX6_findFault {E : bw_E} {d : Nat} {w : bw_W} {Q : Int32 → bw_W → Prop} {sc : Nat} (h_sc : bw_sh sc = (0, 5, 2)) (h : bw_G E (d + 8) mX6_findFault 9 [some (.ref 17), some (.ref sc), some (.int 0)] [] (sw_i w 3 1 0) (bw_qi Q)) : bw_ri E (d + 8) mX6_findFault [.ref 17, .ref sc] w Q := by
  refine bw_enter rfl (Nat.le_of_ble_eq_true rfl) ?_
  refine bw_aload_n (i := 0) dX6_findFault_0 rfl rfl ?_
  refine bw_getr (r := 3) fg_BentWords_ScriptReader_9 rfl rfl dX6_findFault_1 ?_
  refine bw_cVv (As := []) (st := []) (Q' := (fun w1 => (sw_i w 3 1 0) = w1)) cv_BentWords_ScriptReader_15 rfl rfl (fs_X0_rewind (d := d + 7)   rfl) rfl rfl (Nat.le_of_ble_eq_true rfl) dX6_findFault_4 (fun w1 hv => ?_)
  subst hv
  refine bw_iconst (v := 0) dX6_findFault_7 (by decide) ?_
  refine bw_istore_n (i := 2) (L' := [some (.ref 17), some (.ref sc), some (.int 0)]) dX6_findFault_8 rfl (Nat.le_of_ble_eq_true rfl) rfl ?_
  exact h
theorem wfX12_readLexicon_22 {E : bw_E} {d : Nat} {w : bw_W} {Q : Int32 → bw_W → Prop} {l1 : Int32}  (h : ((48 ≤ l1 → (∃ Q1 : bw_W → Prop, bw_rv E (d + 7) mX12_next [.ref 50] w Q1 ∧ ∀ w3, Q1 w3 →
bw_G E (d + 8) mX12_readLexicon 47 [some (.ref 50), some (.int 1)] [] w3 (bw_qi Q))) ∧ (¬ (48 ≤ l1) → (vp_in l1 48) ∧
bw_G E (d + 8) mX12_readLexicon 22 [some (.ref 50), some (.int (l1 + 1))] [] (sw_l w 55 (l1.toNatClampNeg) 0) (bw_qi Q)))) : bw_G E (d + 8) mX12_readLexicon 22 [some (.ref 50), some (.int l1)] [] w (bw_qi Q) := by
  refine bw_iload_n (i := 1) dX12_readLexicon_22 rfl rfl ?_
  refine bw_bipush (v := 48) dX12_readLexicon_23 (by decide) ?_
  refine bw_icmp_ge (tgt := 41) dX12_readLexicon_25 (by decide) (fun c => ?_) (fun c => ?_)
  · replace h := h.1 (c)
    refine bw_aload_n (i := 0) dX12_readLexicon_41 rfl rfl ?_
    obtain ⟨Q1, hr, h⟩ := h
    refine bw_cVv (As := []) (st := []) cv_BentWordsModel_160 rfl rfl hr rfl rfl (Nat.le_of_ble_eq_true rfl) dX12_readLexicon_42 (fun w3 hv => ?_)
    replace h := h w3 hv
    clear hr
    refine bw_iconst (v := 1) dX12_readLexicon_45 (by decide) ?_
    refine bw_istore_n (i := 1) (L' := [some (.ref 50), some (.int 1)]) dX12_readLexicon_46 rfl (Nat.le_of_ble_eq_true rfl) rfl ?_
    exact h
  · replace h := h.2 (c)
    refine bw_aload_n (i := 0) dX12_readLexicon_28 rfl rfl ?_
    refine bw_getr (r := 55) fg_BentWordsModel_23 rfl rfl dX12_readLexicon_29 ?_
    refine bw_iload_n (i := 1) dX12_readLexicon_32 rfl rfl ?_
    refine bw_lconst (v := 0) dX12_readLexicon_33 rfl ?_
    obtain ⟨hi4, h⟩ := h
    refine bw_lastore rfl hi4 dX12_readLexicon_34 ?_
    refine bw_iinc (i := 1) (x := l1) (v := (l1 + 1)) (L' := [some (.ref 50), some (.int (l1 + 1))]) dX12_readLexicon_35 rfl rfl (Nat.le_of_ble_eq_true rfl) rfl ?_
    refine bw_goto (tgt := 22) dX12_readLexicon_38 (by decide) ?_
    exact h
theorem wfX12_readLexicon_47 {E : bw_E} {d : Nat} {w : bw_W} {Q : Int32 → bw_W → Prop} {l1 : Int32}  (h : ((l1 = 0 → ((¬ (gw_i w 50 10) = (-1) → (∃ Q1 : Int32 → bw_W → Prop, bw_ri E (d + 7) mX12_ends [.ref 50] w Q1 ∧ ∀ v2 w3, Q1 v2 w3 →
Q v2 w3)) ∧ ((gw_i w 50 10) = (-1) → ((¬ (gw_i w 50 4) = 0 → (∃ Q4 : Int32 → bw_W → Prop, bw_ri E (d + 7) mX12_ends [.ref 50] w Q4 ∧ ∀ v5 w6, Q4 v5 w6 →
Q v5 w6)) ∧ ((gw_i w 50 4) = 0 → ((¬ (gw_i w 50 20) = 0 → (∃ Q7 : Int32 → bw_W → Prop, bw_ri E (d + 7) mX12_ends [.ref 50] w Q7 ∧ ∀ v8 w9, Q7 v8 w9 →
Q v8 w9)) ∧ ((gw_i w 50 20) = 0 → (∃ Q10 : Int32 → bw_W → Prop, bw_ri E (d + 7) mX12_ends [.ref 50] (sw_i w 50 10 (if ¬ (gw_i w 50 10) = (-1) then (gw_i w 50 10) else (gw_i w 50 2))) Q10 ∧ ∀ v11 w12, Q10 v11 w12 →
Q v11 w12)))))))) ∧ (¬ (l1 = 0) → (∃ Q13 : bw_W → Prop, bw_rv E (d + 7) mX12_clause [.ref 50] w Q13 ∧ ∀ w15, Q13 w15 →
(∃ Q16 : Bool → bw_W → Prop, bw_rb E (d + 7) mX12_takesSign [.ref 50, .int 59] w15 Q16 ∧ ∀ v17 w18, Q16 v17 w18 →
bw_G E (d + 8) mX12_readLexicon 47 [some (.ref 50), some (.int (bw_b v17))] [] w18 (bw_qi Q)))))) : bw_G E (d + 8) mX12_readLexicon 47 [some (.ref 50), some (.int l1)] [] w (bw_qi Q) := by
  refine bw_iload_n (i := 1) dX12_readLexicon_47 rfl rfl ?_
  refine bw_if_eq (tgt := 65) dX12_readLexicon_48 (by decide) (fun c => ?_) (fun c => ?_)
  · replace h := h.1 (c)
    refine bw_aload_n (i := 0) dX12_readLexicon_65 rfl rfl ?_
    refine bw_geti fg_BentWordsModel_150 rfl dX12_readLexicon_66 ?_
    refine bw_iconst (v := (-1)) dX12_readLexicon_69 (by decide) ?_
    refine bw_icmp_ne (tgt := 95) dX12_readLexicon_70 (by decide) (fun c => ?_) (fun c => ?_)
    · replace h := h.1 (c)
      refine bw_aload_n (i := 0) dX12_readLexicon_95 rfl rfl ?_
      obtain ⟨Q1, hr, h⟩ := h
      refine bw_cVi (As := []) (st := []) cv_BentWordsModel_244 rfl rfl hr rfl rfl (Nat.le_of_ble_eq_true rfl) dX12_readLexicon_96 (fun v2 w3 hv => ?_)
      replace h := h v2 w3 hv
      clear hr
      exact bw_ireturn dX12_readLexicon_99 rfl rfl ⟨_, rfl, h⟩
    · replace h := h.2 (c)
      refine bw_aload_n (i := 0) dX12_readLexicon_73 rfl rfl ?_
      refine bw_geti fg_BentWordsModel_126 rfl dX12_readLexicon_74 ?_
      refine bw_if_ne (tgt := 95) dX12_readLexicon_77 (by decide) (fun c => ?_) (fun c => ?_)
      · replace h := h.1 (c)
        refine bw_aload_n (i := 0) dX12_readLexicon_95 rfl rfl ?_
        obtain ⟨Q4, hr, h⟩ := h
        refine bw_cVi (As := []) (st := []) cv_BentWordsModel_244 rfl rfl hr rfl rfl (Nat.le_of_ble_eq_true rfl) dX12_readLexicon_96 (fun v5 w6 hv => ?_)
        replace h := h v5 w6 hv
        clear hr
        exact bw_ireturn dX12_readLexicon_99 rfl rfl ⟨_, rfl, h⟩
      · replace h := h.2 (c)
        refine bw_aload_n (i := 0) dX12_readLexicon_80 rfl rfl ?_
        refine bw_geti fg_BentWordsModel_174 rfl dX12_readLexicon_81 ?_
        refine bw_if_ne (tgt := 95) dX12_readLexicon_84 (by decide) (fun c => ?_) (fun c => ?_)
        · replace h := h.1 (c)
          refine bw_aload_n (i := 0) dX12_readLexicon_95 rfl rfl ?_
          obtain ⟨Q7, hr, h⟩ := h
          refine bw_cVi (As := []) (st := []) cv_BentWordsModel_244 rfl rfl hr rfl rfl (Nat.le_of_ble_eq_true rfl) dX12_readLexicon_96 (fun v8 w9 hv => ?_)
          replace h := h v8 w9 hv
          clear hr
          exact bw_ireturn dX12_readLexicon_99 rfl rfl ⟨_, rfl, h⟩
        · replace h := h.2 (c)
          refine bw_aload_n (i := 0) dX12_readLexicon_87 rfl rfl ?_
          refine bw_aload_n (i := 0) dX12_readLexicon_88 rfl rfl ?_
          refine bw_geti fg_BentWordsModel_97 rfl dX12_readLexicon_89 ?_
          refine bw_cVv (As := [.int (gw_i w 50 2)]) (st := []) (Q' := (fun w1 => (sw_i w 50 10 (if ¬ (gw_i w 50 10) = (-1) then (gw_i w 50 10) else (gw_i w 50 2))) = w1)) cv_BentWordsModel_153 rfl rfl (fs_X12_badAt (d := d + 7) (a0 := (gw_i w 50 2))  rfl) rfl rfl (Nat.le_of_ble_eq_true rfl) dX12_readLexicon_92 (fun w1 hv => ?_)
          subst hv
          refine bw_aload_n (i := 0) dX12_readLexicon_95 rfl rfl ?_
          obtain ⟨Q10, hr, h⟩ := h
          refine bw_cVi (As := []) (st := []) cv_BentWordsModel_244 rfl rfl hr rfl rfl (Nat.le_of_ble_eq_true rfl) dX12_readLexicon_96 (fun v11 w12 hv => ?_)
          replace h := h v11 w12 hv
          clear hr
          exact bw_ireturn dX12_readLexicon_99 rfl rfl ⟨_, rfl, h⟩
  · replace h := h.2 (c)
    refine bw_aload_n (i := 0) dX12_readLexicon_51 rfl rfl ?_
    obtain ⟨Q13, hr, h⟩ := h
    refine bw_cVv (As := []) (st := []) cv_BentWordsModel_238 rfl rfl hr rfl rfl (Nat.le_of_ble_eq_true rfl) dX12_readLexicon_52 (fun w15 hv => ?_)
    replace h := h w15 hv
    clear hr
    refine bw_aload_n (i := 0) dX12_readLexicon_55 rfl rfl ?_
    refine bw_bipush (v := 59) dX12_readLexicon_56 (by decide) ?_
    obtain ⟨Q16, hr, h⟩ := h
    refine bw_cVb (As := [.int 59]) (st := []) cv_BentWordsModel_241 rfl rfl hr rfl rfl (Nat.le_of_ble_eq_true rfl) dX12_readLexicon_58 (fun v17 w18 hv => ?_)
    replace h := h v17 w18 hv
    clear hr
    refine bw_istore_n (i := 1) (L' := [some (.ref 50), some (.int (bw_b v17))]) dX12_readLexicon_61 rfl (Nat.le_of_ble_eq_true rfl) rfl ?_
    refine bw_goto (tgt := 47) dX12_readLexicon_62 (by decide) ?_
    exact h
theorem wfX12_readLexicon {E : bw_E} {d : Nat} {w : bw_W} {Q : Int32 → bw_W → Prop}   (h : bw_G E (d + 8) mX12_readLexicon 22 [some (.ref 50), some (.int 0)] [] (sw_i (sw_i (sw_i (sw_i w 50 3 0) 50 10 (-1)) 50 20 0) 50 21 0) (bw_qi Q)) : bw_ri E (d + 8) mX12_readLexicon [.ref 50] w Q := by
  refine bw_enter rfl (Nat.le_of_ble_eq_true rfl) ?_
  refine bw_aload_n (i := 0) dX12_readLexicon_0 rfl rfl ?_
  refine bw_iconst (v := 0) dX12_readLexicon_1 (by decide) ?_
  refine bw_puti fp_BentWordsModel_104 rfl rfl rfl dX12_readLexicon_2 ?_
  refine bw_aload_n (i := 0) dX12_readLexicon_5 rfl rfl ?_
  refine bw_iconst (v := (-1)) dX12_readLexicon_6 (by decide) ?_
  refine bw_puti fp_BentWordsModel_150 rfl rfl rfl dX12_readLexicon_7 ?_
  refine bw_aload_n (i := 0) dX12_readLexicon_10 rfl rfl ?_
  refine bw_iconst (v := 0) dX12_readLexicon_11 (by decide) ?_
  refine bw_puti fp_BentWordsModel_174 rfl rfl rfl dX12_readLexicon_12 ?_
  refine bw_aload_n (i := 0) dX12_readLexicon_15 rfl rfl ?_
  refine bw_iconst (v := 0) dX12_readLexicon_16 (by decide) ?_
  refine bw_puti fp_BentWordsModel_181 rfl rfl rfl dX12_readLexicon_17 ?_
  refine bw_iconst (v := 0) dX12_readLexicon_20 (by decide) ?_
  refine bw_istore_n (i := 1) (L' := [some (.ref 50), some (.int 0)]) dX12_readLexicon_21 rfl (Nat.le_of_ble_eq_true rfl) rfl ?_
  exact h
theorem wfX12_doNow {E : bw_E} {d : Nat} {w : bw_W} {Q : Int32 → bw_W → Prop} {a0 : Int32} {a1 : Int32} {a2 : Int32} {a3 : Int32} {a4 : Int64}  (h : ((a0 = 0 → (((vp_in (1 + (2 * a1)) 236))) ∧
(((vp_in ((1 + (2 * a1)) + 1) 236))) ∧
(((((((vp_in ((1 + (2 * a1)) + 1) 236))))))) ∧
Q (vX12_fillsNow w a1 a2 a3) (sw_l (sw_l w 63 ((1 + (2 * a1)).toNatClampNeg) (a2.toInt64)) 63 (((1 + (2 * a1)) + 1).toNatClampNeg) (a3.toInt64))) ∧ (a0 = 1 → (((((vp_in (1 + (2 * a1)) 236))))) ∧
(((vp_in (1 + (2 * a1)) 236))) ∧
(((vp_in ((1 + (2 * a1)) + 1) 236))) ∧
Q (vX12_nounIn w a1) (sw_l (sw_l w 63 ((1 + (2 * a1)).toNatClampNeg) (-1)) 63 (((1 + (2 * a1)) + 1).toNatClampNeg) 0)) ∧ (a0 = 2 → (∃ Q7 : Int32 → bw_W → Prop, bw_ri E (d + 7) mX12_tellableMany [.ref 50] (sw_l w 63 (Int32.toNatClampNeg 0) (a1.toInt64)) Q7 ∧ ∀ v8 w9, Q7 v8 w9 →
Q v8 w9)) ∧ (a0.toInt < 0 ∨ 2 < a0.toInt → ((¬ a0 = 3 → (vp_in ((7 + (8 * a1)) + ((2 * a2) + a3)) 236) ∧
(∃ Q11 : Int32 → bw_W → Prop, bw_ri E (d + 7) mX12_formsOf [.ref 50, .int a1] (sw_l w 63 (((7 + (8 * a1)) + ((2 * a2) + a3)).toNatClampNeg) 0) Q11 ∧ ∀ v12 w13, Q11 v12 w13 →
Q v12 w13)) ∧ (a0 = 3 → (vp_in ((7 + (8 * a1)) + ((2 * a2) + a3)) 236) ∧
(∃ Q15 : Int32 → bw_W → Prop, bw_ri E (d + 7) mX12_formsOf [.ref 50, .int a1] (sw_l w 63 (((7 + (8 * a1)) + ((2 * a2) + a3)).toNatClampNeg) a4) Q15 ∧ ∀ v16 w17, Q15 v16 w17 →
Q v16 w17)))))) : bw_ri E (d + 8) mX12_doNow [.ref 50, .int a0, .int a1, .int a2, .int a3, .long a4] w Q := by
  refine bw_enter rfl (Nat.le_of_ble_eq_true rfl) ?_
  refine bw_iload_n (i := 1) dX12_doNow_0 rfl rfl ?_
  refine bw_tabsw dX12_doNow_1 [28, 37, 43] 56 (by decide) rfl rfl (fun j hj hx => ?_) (fun hx => ?_)
  · match j, hj, hx with
    | 0, _, hx =>
      replace h := h.1 (bw_ti hx (by decide))
      refine bw_aload_n (i := 0) dX12_doNow_28 rfl rfl ?_
      refine bw_iload_n (i := 2) dX12_doNow_29 rfl rfl ?_
      refine bw_iload_n (i := 3) dX12_doNow_30 rfl rfl ?_
      refine bw_iload dX12_doNow_31 rfl ?_
      obtain ⟨hc1, h⟩ := h
      obtain ⟨hc2, h⟩ := h
      obtain ⟨hc3, h⟩ := h
      refine bw_cVi (As := [.int a1, .int a2, .int a3]) (st := []) (Q' := (fun v w1 => (vX12_fillsNow w a1 a2 a3) = v ∧ (sw_l (sw_l w 63 ((1 + (2 * a1)).toNatClampNeg) (a2.toInt64)) 63 (((1 + (2 * a1)) + 1).toNatClampNeg) (a3.toInt64)) = w1)) cv_BentWordsModel_386 rfl rfl (fs_X12_fillsNow (d := d + 5) (a0 := a1) (a1 := a2) (a2 := a3) hc1 hc2 hc3 ⟨rfl, rfl⟩) rfl rfl (Nat.le_of_ble_eq_true rfl) dX12_doNow_33 (fun v w1 hv => ?_)
      obtain ⟨rfl, rfl⟩ := hv
      exact bw_ireturn dX12_doNow_36 rfl rfl ⟨_, rfl, h⟩
    | 1, _, hx =>
      replace h := h.2.1 (bw_ti hx (by decide))
      refine bw_aload_n (i := 0) dX12_doNow_37 rfl rfl ?_
      refine bw_iload_n (i := 2) dX12_doNow_38 rfl rfl ?_
      obtain ⟨hc4, h⟩ := h
      obtain ⟨hc5, h⟩ := h
      obtain ⟨hc6, h⟩ := h
      refine bw_cVi (As := [.int a1]) (st := []) (Q' := (fun v w1 => (vX12_nounIn w a1) = v ∧ (sw_l (sw_l w 63 ((1 + (2 * a1)).toNatClampNeg) (-1)) 63 (((1 + (2 * a1)) + 1).toNatClampNeg) 0) = w1)) cv_BentWordsModel_389 rfl rfl (fs_X12_emptiesNow (d := d + 6) (a0 := a1) hc4 hc5 hc6 ⟨rfl, rfl⟩) rfl rfl (Nat.le_of_ble_eq_true rfl) dX12_doNow_39 (fun v w1 hv => ?_)
      obtain ⟨rfl, rfl⟩ := hv
      exact bw_ireturn dX12_doNow_42 rfl rfl ⟨_, rfl, h⟩
    | 2, _, hx =>
      replace h := h.2.2.1 (bw_ti hx (by decide))
      refine bw_aload_n (i := 0) dX12_doNow_43 rfl rfl ?_
      refine bw_getr (r := 63) fg_BentWordsModel_47 rfl rfl dX12_doNow_44 ?_
      refine bw_iconst (v := 0) dX12_doNow_47 (by decide) ?_
      refine bw_iload_n (i := 2) dX12_doNow_48 rfl rfl ?_
      refine bw_i2l dX12_doNow_49 ?_
      refine bw_lastore rfl (by unfold vp_in; decide) dX12_doNow_50 ?_
      refine bw_aload_n (i := 0) dX12_doNow_51 rfl rfl ?_
      obtain ⟨Q7, hr, h⟩ := h
      refine bw_cVi (As := []) (st := []) cv_BentWordsModel_392 rfl rfl hr rfl rfl (Nat.le_of_ble_eq_true rfl) dX12_doNow_52 (fun v8 w9 hv => ?_)
      replace h := h v8 w9 hv
      clear hr
      exact bw_ireturn dX12_doNow_55 rfl rfl ⟨_, rfl, h⟩
    | j + 3, hj, _ => exact absurd hj (by simp)
  · replace h := h.2.2.2 hx
    refine bw_aload_n (i := 0) dX12_doNow_56 rfl rfl ?_
    refine bw_getr (r := 63) fg_BentWordsModel_47 rfl rfl dX12_doNow_57 ?_
    refine bw_bipush (v := 7) dX12_doNow_60 (by decide) ?_
    refine bw_bipush (v := 8) dX12_doNow_62 (by decide) ?_
    refine bw_iload_n (i := 2) dX12_doNow_64 rfl rfl ?_
    refine bw_imul dX12_doNow_65 ?_
    refine bw_iadd dX12_doNow_66 ?_
    refine bw_iload_n (i := 3) dX12_doNow_67 rfl rfl ?_
    refine bw_iload dX12_doNow_68 rfl ?_
    refine bw_cSi (As := [.int a2, .int a3]) (st := [.int (7 + (8 * a1)), .ref 63]) (Q' := (fun v w1 => ((2 * a2) + a3) = v ∧ w = w1)) cs_BentWordsModel_195 (fs_X12_formAt (d := d + 7) (a0 := a2) (a1 := a3)  ⟨rfl, rfl⟩) rfl rfl (Nat.le_of_ble_eq_true rfl) dX12_doNow_70 (fun v w1 hv => ?_)
    obtain ⟨rfl, rfl⟩ := hv
    refine bw_iadd dX12_doNow_73 ?_
    refine bw_iload_n (i := 1) dX12_doNow_74 rfl rfl ?_
    refine bw_iconst (v := 3) dX12_doNow_75 (by decide) ?_
    refine bw_icmp_ne (tgt := 84) dX12_doNow_76 (by decide) (fun c => ?_) (fun c => ?_)
    · replace h := h.1 (c)
      refine bw_lconst (v := 0) dX12_doNow_84 rfl ?_
      obtain ⟨hi10, h⟩ := h
      refine bw_lastore rfl hi10 dX12_doNow_85 ?_
      refine bw_aload_n (i := 0) dX12_doNow_86 rfl rfl ?_
      refine bw_iload_n (i := 2) dX12_doNow_87 rfl rfl ?_
      obtain ⟨Q11, hr, h⟩ := h
      refine bw_cVi (As := [.int a1]) (st := []) cv_BentWordsModel_395 rfl rfl hr rfl rfl (Nat.le_of_ble_eq_true rfl) dX12_doNow_88 (fun v12 w13 hv => ?_)
      replace h := h v12 w13 hv
      clear hr
      exact bw_ireturn dX12_doNow_91 rfl rfl ⟨_, rfl, h⟩
    · replace h := h.2 (c)
      refine bw_lload dX12_doNow_79 rfl ?_
      refine bw_goto (tgt := 85) dX12_doNow_81 (by decide) ?_
      obtain ⟨hi14, h⟩ := h
      refine bw_lastore rfl hi14 dX12_doNow_85 ?_
      refine bw_aload_n (i := 0) dX12_doNow_86 rfl rfl ?_
      refine bw_iload_n (i := 2) dX12_doNow_87 rfl rfl ?_
      obtain ⟨Q15, hr, h⟩ := h
      refine bw_cVi (As := [.int a1]) (st := []) cv_BentWordsModel_395 rfl rfl hr rfl rfl (Nat.le_of_ble_eq_true rfl) dX12_doNow_88 (fun v16 w17 hv => ?_)
      replace h := h v16 w17 hv
      clear hr
      exact bw_ireturn dX12_doNow_91 rfl rfl ⟨_, rfl, h⟩
theorem wfX12_note_16 {E : bw_E} {d : Nat} {w : bw_W} {Q : bw_W → Prop} {l1 : Int32} {l2 : Int32} {l3 : Int32}  (h : ((180 ≤ l3 → (vp_in (56 + (3 * ((gw_l (sw_l w 63 (Int32.toNatClampNeg 55) ((gw_l w 63 55) - 1)) 63 55).toInt32))) 236) ∧
(vp_in ((56 + (3 * ((gw_l (sw_l w 63 (Int32.toNatClampNeg 55) ((gw_l w 63 55) - 1)) 63 55).toInt32))) + 1) 236) ∧
(∃ Q3 : Int32 → bw_W → Prop, bw_ri E (d + 7) mX12_tellableMany [.ref 50] (sw_l (sw_l (sw_l w 63 (Int32.toNatClampNeg 55) ((gw_l w 63 55) - 1)) 63 ((56 + (3 * ((gw_l (sw_l w 63 (Int32.toNatClampNeg 55) ((gw_l w 63 55) - 1)) 63 55).toInt32))).toNatClampNeg) (l1.toInt64)) 63 (((56 + (3 * ((gw_l (sw_l w 63 (Int32.toNatClampNeg 55) ((gw_l w 63 55) - 1)) 63 55).toInt32))) + 1).toNatClampNeg) (l2.toInt64)) Q3 ∧ ∀ v4 w5, Q3 v4 w5 →
(vp_in ((56 + (3 * ((gw_l (sw_l w 63 (Int32.toNatClampNeg 55) ((gw_l w 63 55) - 1)) 63 55).toInt32))) + 2) 236) ∧
Q (sw_l (sw_l w5 63 (((56 + (3 * ((gw_l (sw_l w 63 (Int32.toNatClampNeg 55) ((gw_l w 63 55) - 1)) 63 55).toInt32))) + 2).toNatClampNeg) (v4.toInt64)) 63 (Int32.toNatClampNeg 55) ((gw_l (sw_l w5 63 (((56 + (3 * ((gw_l (sw_l w 63 (Int32.toNatClampNeg 55) ((gw_l w 63 55) - 1)) 63 55).toInt32))) + 2).toNatClampNeg) (v4.toInt64)) 63 55) + 1)))) ∧ (¬ (180 ≤ l3) → (vp_in (56 + l3) 236) ∧
(vp_in ((56 + l3) - 3) 236) ∧
bw_G E (d + 8) mX12_note 16 [some (.ref 50), some (.int l1), some (.int l2), some (.int (l3 + 1))] [] (sw_l w 63 (((56 + l3) - 3).toNatClampNeg) (gw_l w 63 ((56 + l3).toNatClampNeg))) (bw_qv Q)))) : bw_G E (d + 8) mX12_note 16 [some (.ref 50), some (.int l1), some (.int l2), some (.int l3)] [] w (bw_qv Q) := by
  refine bw_iload_n (i := 3) dX12_note_16 rfl rfl ?_
  refine bw_sipush (v := 180) dX12_note_17 (by decide) ?_
  refine bw_icmp_ge (tgt := 49) dX12_note_20 (by decide) (fun c => ?_) (fun c => ?_)
  · replace h := h.1 (c)
    refine bw_aload_n (i := 0) dX12_note_49 rfl rfl ?_
    refine bw_getr (r := 63) fg_BentWordsModel_47 rfl rfl dX12_note_50 ?_
    refine bw_bipush (v := 55) dX12_note_53 (by decide) ?_
    refine bw_dup2 dX12_note_55 rfl rfl ?_
    refine bw_laload rfl (by unfold vp_in; decide) dX12_note_56 ?_
    rw [show gw_l w 63 (Int32.toNatClampNeg 55) = (gw_l w 63 55) from rfl]
    refine bw_lconst (v := 1) dX12_note_57 rfl ?_
    refine bw_lsub dX12_note_58 ?_
    refine bw_lastore rfl (by unfold vp_in; decide) dX12_note_59 ?_
    refine bw_bipush (v := 56) dX12_note_60 (by decide) ?_
    refine bw_iconst (v := 3) dX12_note_62 (by decide) ?_
    refine bw_aload_n (i := 0) dX12_note_63 rfl rfl ?_
    refine bw_getr (r := 63) fg_BentWordsModel_47 rfl rfl dX12_note_64 ?_
    refine bw_bipush (v := 55) dX12_note_67 (by decide) ?_
    refine bw_laload rfl (by unfold vp_in; decide) dX12_note_69 ?_
    rw [show gw_l (sw_l w 63 (Int32.toNatClampNeg 55) ((gw_l w 63 55) - 1)) 63 (Int32.toNatClampNeg 55) = (gw_l (sw_l w 63 (Int32.toNatClampNeg 55) ((gw_l w 63 55) - 1)) 63 55) from rfl]
    refine bw_l2i dX12_note_70 ?_
    refine bw_imul dX12_note_71 ?_
    refine bw_iadd dX12_note_72 ?_
    refine bw_istore_n (i := 3) (L' := [some (.ref 50), some (.int l1), some (.int l2), some (.int (56 + (3 * ((gw_l (sw_l w 63 (Int32.toNatClampNeg 55) ((gw_l w 63 55) - 1)) 63 55).toInt32))))]) dX12_note_73 rfl (Nat.le_of_ble_eq_true rfl) rfl ?_
    refine bw_aload_n (i := 0) dX12_note_74 rfl rfl ?_
    refine bw_getr (r := 63) fg_BentWordsModel_47 rfl rfl dX12_note_75 ?_
    refine bw_iload_n (i := 3) dX12_note_78 rfl rfl ?_
    refine bw_iload_n (i := 1) dX12_note_79 rfl rfl ?_
    refine bw_i2l dX12_note_80 ?_
    obtain ⟨hi1, h⟩ := h
    refine bw_lastore rfl hi1 dX12_note_81 ?_
    refine bw_aload_n (i := 0) dX12_note_82 rfl rfl ?_
    refine bw_getr (r := 63) fg_BentWordsModel_47 rfl rfl dX12_note_83 ?_
    refine bw_iload_n (i := 3) dX12_note_86 rfl rfl ?_
    refine bw_iconst (v := 1) dX12_note_87 (by decide) ?_
    refine bw_iadd dX12_note_88 ?_
    refine bw_iload_n (i := 2) dX12_note_89 rfl rfl ?_
    refine bw_i2l dX12_note_90 ?_
    obtain ⟨hi2, h⟩ := h
    refine bw_lastore rfl hi2 dX12_note_91 ?_
    refine bw_aload_n (i := 0) dX12_note_92 rfl rfl ?_
    refine bw_getr (r := 63) fg_BentWordsModel_47 rfl rfl dX12_note_93 ?_
    refine bw_iload_n (i := 3) dX12_note_96 rfl rfl ?_
    refine bw_iconst (v := 2) dX12_note_97 (by decide) ?_
    refine bw_iadd dX12_note_98 ?_
    refine bw_aload_n (i := 0) dX12_note_99 rfl rfl ?_
    obtain ⟨Q3, hr, h⟩ := h
    refine bw_cVi (As := []) (st := [.int ((56 + (3 * ((gw_l (sw_l w 63 (Int32.toNatClampNeg 55) ((gw_l w 63 55) - 1)) 63 55).toInt32))) + 2), .ref 63]) cv_BentWordsModel_392 rfl rfl hr rfl rfl (Nat.le_of_ble_eq_true rfl) dX12_note_100 (fun v4 w5 hv => ?_)
    replace h := h v4 w5 hv
    clear hr
    refine bw_i2l dX12_note_103 ?_
    obtain ⟨hi6, h⟩ := h
    refine bw_lastore rfl hi6 dX12_note_104 ?_
    refine bw_aload_n (i := 0) dX12_note_105 rfl rfl ?_
    refine bw_getr (r := 63) fg_BentWordsModel_47 rfl rfl dX12_note_106 ?_
    refine bw_bipush (v := 55) dX12_note_109 (by decide) ?_
    refine bw_dup2 dX12_note_111 rfl rfl ?_
    refine bw_laload rfl (by unfold vp_in; decide) dX12_note_112 ?_
    rw [show gw_l (sw_l w5 63 (((56 + (3 * ((gw_l (sw_l w 63 (Int32.toNatClampNeg 55) ((gw_l w 63 55) - 1)) 63 55).toInt32))) + 2).toNatClampNeg) (v4.toInt64)) 63 (Int32.toNatClampNeg 55) = (gw_l (sw_l w5 63 (((56 + (3 * ((gw_l (sw_l w 63 (Int32.toNatClampNeg 55) ((gw_l w 63 55) - 1)) 63 55).toInt32))) + 2).toNatClampNeg) (v4.toInt64)) 63 55) from rfl]
    refine bw_lconst (v := 1) dX12_note_113 rfl ?_
    refine bw_ladd dX12_note_114 ?_
    refine bw_lastore rfl (by unfold vp_in; decide) dX12_note_115 ?_
    exact bw_return dX12_note_116 rfl ⟨rfl, h⟩
  · replace h := h.2 (c)
    refine bw_aload_n (i := 0) dX12_note_23 rfl rfl ?_
    refine bw_getr (r := 63) fg_BentWordsModel_47 rfl rfl dX12_note_24 ?_
    refine bw_bipush (v := 56) dX12_note_27 (by decide) ?_
    refine bw_iload_n (i := 3) dX12_note_29 rfl rfl ?_
    refine bw_iadd dX12_note_30 ?_
    refine bw_iconst (v := 3) dX12_note_31 (by decide) ?_
    refine bw_isub dX12_note_32 ?_
    refine bw_aload_n (i := 0) dX12_note_33 rfl rfl ?_
    refine bw_getr (r := 63) fg_BentWordsModel_47 rfl rfl dX12_note_34 ?_
    refine bw_bipush (v := 56) dX12_note_37 (by decide) ?_
    refine bw_iload_n (i := 3) dX12_note_39 rfl rfl ?_
    refine bw_iadd dX12_note_40 ?_
    obtain ⟨hi7, h⟩ := h
    refine bw_laload rfl hi7 dX12_note_41 ?_
    obtain ⟨hi8, h⟩ := h
    refine bw_lastore rfl hi8 dX12_note_42 ?_
    refine bw_iinc (i := 3) (x := l3) (v := (l3 + 1)) (L' := [some (.ref 50), some (.int l1), some (.int l2), some (.int (l3 + 1))]) dX12_note_43 rfl rfl (Nat.le_of_ble_eq_true rfl) rfl ?_
    refine bw_goto (tgt := 16) dX12_note_46 (by decide) ?_
    exact h
theorem wfX12_note {E : bw_E} {d : Nat} {w : bw_W} {Q : bw_W → Prop} {a0 : Int32} {a1 : Int32}  (h : ((¬ (gw_l w 63 55) = 60 → (vp_in (56 + (3 * ((gw_l w 63 55).toInt32))) 236) ∧
(vp_in ((56 + (3 * ((gw_l w 63 55).toInt32))) + 1) 236) ∧
(∃ Q3 : Int32 → bw_W → Prop, bw_ri E (d + 7) mX12_tellableMany [.ref 50] (sw_l (sw_l w 63 ((56 + (3 * ((gw_l w 63 55).toInt32))).toNatClampNeg) (a0.toInt64)) 63 (((56 + (3 * ((gw_l w 63 55).toInt32))) + 1).toNatClampNeg) (a1.toInt64)) Q3 ∧ ∀ v4 w5, Q3 v4 w5 →
(vp_in ((56 + (3 * ((gw_l w 63 55).toInt32))) + 2) 236) ∧
Q (sw_l (sw_l w5 63 (((56 + (3 * ((gw_l w 63 55).toInt32))) + 2).toNatClampNeg) (v4.toInt64)) 63 (Int32.toNatClampNeg 55) ((gw_l (sw_l w5 63 (((56 + (3 * ((gw_l w 63 55).toInt32))) + 2).toNatClampNeg) (v4.toInt64)) 63 55) + 1)))) ∧ ((gw_l w 63 55) = 60 → bw_G E (d + 8) mX12_note 16 [some (.ref 50), some (.int a0), some (.int a1), some (.int 3)] [] w (bw_qv Q)))) : bw_rv E (d + 8) mX12_note [.ref 50, .int a0, .int a1] w Q := by
  refine bw_enter rfl (Nat.le_of_ble_eq_true rfl) ?_
  refine bw_aload_n (i := 0) dX12_note_0 rfl rfl ?_
  refine bw_getr (r := 63) fg_BentWordsModel_47 rfl rfl dX12_note_1 ?_
  refine bw_bipush (v := 55) dX12_note_4 (by decide) ?_
  refine bw_laload rfl (by unfold vp_in; decide) dX12_note_6 ?_
  rw [show gw_l w 63 (Int32.toNatClampNeg 55) = (gw_l w 63 55) from rfl]
  refine bw_ldc2 kl_BentWordsModel_398 dX12_note_7 ?_
  refine bw_lcmp_ne (tgt := 60) dX12_note_10 dX12_note_11 (by decide) (fun c => ?_) (fun c => ?_)
  · replace h := h.1 (c)
    refine bw_bipush (v := 56) dX12_note_60 (by decide) ?_
    refine bw_iconst (v := 3) dX12_note_62 (by decide) ?_
    refine bw_aload_n (i := 0) dX12_note_63 rfl rfl ?_
    refine bw_getr (r := 63) fg_BentWordsModel_47 rfl rfl dX12_note_64 ?_
    refine bw_bipush (v := 55) dX12_note_67 (by decide) ?_
    refine bw_laload rfl (by unfold vp_in; decide) dX12_note_69 ?_
    rw [show gw_l w 63 (Int32.toNatClampNeg 55) = (gw_l w 63 55) from rfl]
    refine bw_l2i dX12_note_70 ?_
    refine bw_imul dX12_note_71 ?_
    refine bw_iadd dX12_note_72 ?_
    refine bw_istore_n (i := 3) (L' := [some (.ref 50), some (.int a0), some (.int a1), some (.int (56 + (3 * ((gw_l w 63 55).toInt32))))]) dX12_note_73 rfl (Nat.le_of_ble_eq_true rfl) rfl ?_
    refine bw_aload_n (i := 0) dX12_note_74 rfl rfl ?_
    refine bw_getr (r := 63) fg_BentWordsModel_47 rfl rfl dX12_note_75 ?_
    refine bw_iload_n (i := 3) dX12_note_78 rfl rfl ?_
    refine bw_iload_n (i := 1) dX12_note_79 rfl rfl ?_
    refine bw_i2l dX12_note_80 ?_
    obtain ⟨hi1, h⟩ := h
    refine bw_lastore rfl hi1 dX12_note_81 ?_
    refine bw_aload_n (i := 0) dX12_note_82 rfl rfl ?_
    refine bw_getr (r := 63) fg_BentWordsModel_47 rfl rfl dX12_note_83 ?_
    refine bw_iload_n (i := 3) dX12_note_86 rfl rfl ?_
    refine bw_iconst (v := 1) dX12_note_87 (by decide) ?_
    refine bw_iadd dX12_note_88 ?_
    refine bw_iload_n (i := 2) dX12_note_89 rfl rfl ?_
    refine bw_i2l dX12_note_90 ?_
    obtain ⟨hi2, h⟩ := h
    refine bw_lastore rfl hi2 dX12_note_91 ?_
    refine bw_aload_n (i := 0) dX12_note_92 rfl rfl ?_
    refine bw_getr (r := 63) fg_BentWordsModel_47 rfl rfl dX12_note_93 ?_
    refine bw_iload_n (i := 3) dX12_note_96 rfl rfl ?_
    refine bw_iconst (v := 2) dX12_note_97 (by decide) ?_
    refine bw_iadd dX12_note_98 ?_
    refine bw_aload_n (i := 0) dX12_note_99 rfl rfl ?_
    obtain ⟨Q3, hr, h⟩ := h
    refine bw_cVi (As := []) (st := [.int ((56 + (3 * ((gw_l w 63 55).toInt32))) + 2), .ref 63]) cv_BentWordsModel_392 rfl rfl hr rfl rfl (Nat.le_of_ble_eq_true rfl) dX12_note_100 (fun v4 w5 hv => ?_)
    replace h := h v4 w5 hv
    clear hr
    refine bw_i2l dX12_note_103 ?_
    obtain ⟨hi6, h⟩ := h
    refine bw_lastore rfl hi6 dX12_note_104 ?_
    refine bw_aload_n (i := 0) dX12_note_105 rfl rfl ?_
    refine bw_getr (r := 63) fg_BentWordsModel_47 rfl rfl dX12_note_106 ?_
    refine bw_bipush (v := 55) dX12_note_109 (by decide) ?_
    refine bw_dup2 dX12_note_111 rfl rfl ?_
    refine bw_laload rfl (by unfold vp_in; decide) dX12_note_112 ?_
    rw [show gw_l (sw_l w5 63 (((56 + (3 * ((gw_l w 63 55).toInt32))) + 2).toNatClampNeg) (v4.toInt64)) 63 (Int32.toNatClampNeg 55) = (gw_l (sw_l w5 63 (((56 + (3 * ((gw_l w 63 55).toInt32))) + 2).toNatClampNeg) (v4.toInt64)) 63 55) from rfl]
    refine bw_lconst (v := 1) dX12_note_113 rfl ?_
    refine bw_ladd dX12_note_114 ?_
    refine bw_lastore rfl (by unfold vp_in; decide) dX12_note_115 ?_
    exact bw_return dX12_note_116 rfl ⟨rfl, h⟩
  · replace h := h.2 (c)
    refine bw_iconst (v := 3) dX12_note_14 (by decide) ?_
    refine bw_istore_n (i := 3) (L' := [some (.ref 50), some (.int a0), some (.int a1), some (.int 3)]) dX12_note_15 rfl (Nat.le_of_ble_eq_true rfl) rfl ?_
    exact h
theorem wfX12_image_11 {E : bw_E} {d : Nat} {w : bw_W} {Q : Int32 → bw_W → Prop} {l1 : Int32}  (h : ((236 ≤ l1 → (∃ Q1 : Int32 → bw_W → Prop, bw_ri E (d + 7) mX12_tellableMany [.ref 50] (sw_i w 50 51 1) Q1 ∧ ∀ v2 w3, Q1 v2 w3 →
Q v2 w3)) ∧ (¬ (236 ≤ l1) → (vp_in l1 236) ∧
(vp_in l1 236) ∧
bw_G E (d + 8) mX12_image 11 [some (.ref 50), some (.int (l1 + 1))] [] (sw_l w 76 (l1.toNatClampNeg) (gw_l w 63 (l1.toNatClampNeg))) (bw_qi Q)))) : bw_G E (d + 8) mX12_image 11 [some (.ref 50), some (.int l1)] [] w (bw_qi Q) := by
  refine bw_iload_n (i := 1) dX12_image_11 rfl rfl ?_
  refine bw_sipush (v := 236) dX12_image_12 (by decide) ?_
  refine bw_icmp_ge (tgt := 36) dX12_image_15 (by decide) (fun c => ?_) (fun c => ?_)
  · replace h := h.1 (c)
    refine bw_aload_n (i := 0) dX12_image_36 rfl rfl ?_
    refine bw_iconst (v := 1) dX12_image_37 (by decide) ?_
    refine bw_puti fp_BentWordsModel_286 rfl (by decide) (by decide) dX12_image_38 ?_
    refine bw_aload_n (i := 0) dX12_image_41 rfl rfl ?_
    obtain ⟨Q1, hr, h⟩ := h
    refine bw_cVi (As := []) (st := []) cv_BentWordsModel_392 rfl rfl hr rfl rfl (Nat.le_of_ble_eq_true rfl) dX12_image_42 (fun v2 w3 hv => ?_)
    replace h := h v2 w3 hv
    clear hr
    exact bw_ireturn dX12_image_45 rfl rfl ⟨_, rfl, h⟩
  · replace h := h.2 (c)
    refine bw_aload_n (i := 0) dX12_image_18 rfl rfl ?_
    refine bw_getr (r := 76) fg_BentWordsModel_86 rfl rfl dX12_image_19 ?_
    refine bw_iload_n (i := 1) dX12_image_22 rfl rfl ?_
    refine bw_aload_n (i := 0) dX12_image_23 rfl rfl ?_
    refine bw_getr (r := 63) fg_BentWordsModel_47 rfl rfl dX12_image_24 ?_
    refine bw_iload_n (i := 1) dX12_image_27 rfl rfl ?_
    obtain ⟨hi4, h⟩ := h
    refine bw_laload rfl hi4 dX12_image_28 ?_
    obtain ⟨hi5, h⟩ := h
    refine bw_lastore rfl hi5 dX12_image_29 ?_
    refine bw_iinc (i := 1) (x := l1) (v := (l1 + 1)) (L' := [some (.ref 50), some (.int (l1 + 1))]) dX12_image_30 rfl rfl (Nat.le_of_ble_eq_true rfl) rfl ?_
    refine bw_goto (tgt := 11) dX12_image_33 (by decide) ?_
    exact h
theorem wfX12_image {E : bw_E} {d : Nat} {w : bw_W} {Q : Int32 → bw_W → Prop}   (h : (((¬ ((gw_i w 50 34) ≤ 0)) → bw_G E (d + 8) mX12_image 11 [some (.ref 50), some (.int 0)] [] w (bw_qi Q)) ∧ (¬ (¬ ((gw_i w 50 34) ≤ 0)) → Q (-1) w))) : bw_ri E (d + 8) mX12_image [.ref 50] w Q := by
  refine bw_enter rfl (Nat.le_of_ble_eq_true rfl) ?_
  refine bw_aload_n (i := 0) dX12_image_0 rfl rfl ?_
  refine bw_cVb (As := []) (st := []) (Q' := (fun v w1 => (decide (¬ ((gw_i w 50 34) ≤ 0))) = v ∧ w = w1)) cv_BentWordsModel_272 rfl rfl (fs_X12_isLexicon (d := d + 7)   ⟨rfl, rfl⟩) rfl rfl (Nat.le_of_ble_eq_true rfl) dX12_image_1 (fun v w1 hv => ?_)
  obtain ⟨rfl, rfl⟩ := hv
  refine bw_ifb_ne (tgt := 9) dX12_image_4 (by decide) (fun c => ?_) (fun c => ?_)
  · replace h := h.1 (of_decide_eq_true c)
    refine bw_iconst (v := 0) dX12_image_9 (by decide) ?_
    refine bw_istore_n (i := 1) (L' := [some (.ref 50), some (.int 0)]) dX12_image_10 rfl (Nat.le_of_ble_eq_true rfl) rfl ?_
    exact h
  · replace h := h.2 (of_decide_eq_false c)
    refine bw_iconst (v := (-1)) dX12_image_7 (by decide) ?_
    exact bw_ireturn dX12_image_8 rfl rfl ⟨_, rfl, h⟩
theorem wfX12_back_11 {E : bw_E} {d : Nat} {w : bw_W} {Q : Int32 → bw_W → Prop} {l1 : Int32}  (h : ((236 ≤ l1 → (∃ Q1 : Int32 → bw_W → Prop, bw_ri E (d + 7) mX12_tellableMany [.ref 50] (sw_i w 50 42 0) Q1 ∧ ∀ v2 w3, Q1 v2 w3 →
Q v2 w3)) ∧ (¬ (236 ≤ l1) → (vp_in l1 236) ∧
(vp_in l1 236) ∧
bw_G E (d + 8) mX12_back 11 [some (.ref 50), some (.int (l1 + 1))] [] (sw_l w 63 (l1.toNatClampNeg) (gw_l w 76 (l1.toNatClampNeg))) (bw_qi Q)))) : bw_G E (d + 8) mX12_back 11 [some (.ref 50), some (.int l1)] [] w (bw_qi Q) := by
  refine bw_iload_n (i := 1) dX12_back_11 rfl rfl ?_
  refine bw_sipush (v := 236) dX12_back_12 (by decide) ?_
  refine bw_icmp_ge (tgt := 36) dX12_back_15 (by decide) (fun c => ?_) (fun c => ?_)
  · replace h := h.1 (c)
    refine bw_aload_n (i := 0) dX12_back_36 rfl rfl ?_
    refine bw_iconst (v := 0) dX12_back_37 (by decide) ?_
    refine bw_puti fp_BentWordsModel_283 rfl rfl rfl dX12_back_38 ?_
    refine bw_aload_n (i := 0) dX12_back_41 rfl rfl ?_
    obtain ⟨Q1, hr, h⟩ := h
    refine bw_cVi (As := []) (st := []) cv_BentWordsModel_392 rfl rfl hr rfl rfl (Nat.le_of_ble_eq_true rfl) dX12_back_42 (fun v2 w3 hv => ?_)
    replace h := h v2 w3 hv
    clear hr
    exact bw_ireturn dX12_back_45 rfl rfl ⟨_, rfl, h⟩
  · replace h := h.2 (c)
    refine bw_aload_n (i := 0) dX12_back_18 rfl rfl ?_
    refine bw_getr (r := 63) fg_BentWordsModel_47 rfl rfl dX12_back_19 ?_
    refine bw_iload_n (i := 1) dX12_back_22 rfl rfl ?_
    refine bw_aload_n (i := 0) dX12_back_23 rfl rfl ?_
    refine bw_getr (r := 76) fg_BentWordsModel_86 rfl rfl dX12_back_24 ?_
    refine bw_iload_n (i := 1) dX12_back_27 rfl rfl ?_
    obtain ⟨hi4, h⟩ := h
    refine bw_laload rfl hi4 dX12_back_28 ?_
    obtain ⟨hi5, h⟩ := h
    refine bw_lastore rfl hi5 dX12_back_29 ?_
    refine bw_iinc (i := 1) (x := l1) (v := (l1 + 1)) (L' := [some (.ref 50), some (.int (l1 + 1))]) dX12_back_30 rfl rfl (Nat.le_of_ble_eq_true rfl) rfl ?_
    refine bw_goto (tgt := 11) dX12_back_33 (by decide) ?_
    exact h
theorem wfX12_back {E : bw_E} {d : Nat} {w : bw_W} {Q : Int32 → bw_W → Prop}   (h : ((¬ (gw_i w 50 51) = 0 → bw_G E (d + 8) mX12_back 11 [some (.ref 50), some (.int 0)] [] w (bw_qi Q)) ∧ ((gw_i w 50 51) = 0 → Q (-1) w))) : bw_ri E (d + 8) mX12_back [.ref 50] w Q := by
  refine bw_enter rfl (Nat.le_of_ble_eq_true rfl) ?_
  refine bw_aload_n (i := 0) dX12_back_0 rfl rfl ?_
  refine bw_geti fg_BentWordsModel_286 rfl dX12_back_1 ?_
  refine bw_if_ne (tgt := 9) dX12_back_4 (by decide) (fun c => ?_) (fun c => ?_)
  · replace h := h.1 (c)
    refine bw_iconst (v := 0) dX12_back_9 (by decide) ?_
    refine bw_istore_n (i := 1) (L' := [some (.ref 50), some (.int 0)]) dX12_back_10 rfl (Nat.le_of_ble_eq_true rfl) rfl ?_
    exact h
  · replace h := h.2 (c)
    refine bw_iconst (v := (-1)) dX12_back_7 (by decide) ?_
    exact bw_ireturn dX12_back_8 rfl rfl ⟨_, rfl, h⟩
theorem wfX11_fault {E : bw_E} {d : Nat} {w : bw_W} {Q : Int32 → bw_W → Prop} {a0 : Int32}  (h : ((a0 = 0 → (∃ Q1 : Int32 → bw_W → Prop, bw_ri E (d + 8) mX4_findFault [.ref 4] w Q1 ∧ ∀ v2 w3, Q1 v2 w3 →
Q v2 w3)) ∧ (a0 = 1 → (vp_in (gw_i w 0 7) 5) ∧
(∃ Q5 : Int32 → bw_W → Prop, bw_ri E (d + 8) mX6_findFault [.ref 17, .ref (bw_rf 30 ((gw_i w 0 7).toNatClampNeg))] w Q5 ∧ ∀ v6 w7, Q5 v6 w7 →
Q v6 w7)) ∧ (¬ a0 = 0 → ¬ a0 = 1 → Q (-2) w))) : bw_ri E (d + 9) mX11_fault [.ref 0, .int a0] w Q := by
  refine bw_enter rfl (Nat.le_of_ble_eq_true rfl) ?_
  refine bw_iload_n (i := 1) dX11_fault_0 rfl rfl ?_
  by_cases c0 : a0 = 0
  · refine bw_lookE (off := 27) (tgt := 28) (v := 0) dX11_fault_1 c0 (by decide) (by decide) (by decide) ?_
    replace h := h.1 c0
    refine bw_aload_n (i := 0) dX11_fault_28 rfl rfl ?_
    refine bw_getr (r := 4) fg_BentWords_30 rfl rfl dX11_fault_29 ?_
    obtain ⟨Q1, hr, h⟩ := h
    refine bw_cVi (As := []) (st := []) cv_BentWords_117 rfl rfl hr rfl rfl (Nat.le_of_ble_eq_true rfl) dX11_fault_32 (fun v2 w3 hv => ?_)
    replace h := h v2 w3 hv
    clear hr
    exact bw_ireturn dX11_fault_35 rfl rfl ⟨_, rfl, h⟩
  by_cases c1 : a0 = 1
  · refine bw_lookE (off := 35) (tgt := 36) (v := 1) dX11_fault_1 c1 (by decide) (by decide) (by decide) ?_
    replace h := h.2.1 c1
    refine bw_aload_n (i := 0) dX11_fault_36 rfl rfl ?_
    refine bw_getr (r := 17) fg_BentWords_37 rfl rfl dX11_fault_37 ?_
    refine bw_aload_n (i := 0) dX11_fault_40 rfl rfl ?_
    refine bw_getr (r := 30) fg_BentWords_50 rfl rfl dX11_fault_41 ?_
    refine bw_aload_n (i := 0) dX11_fault_44 rfl rfl ?_
    refine bw_geti fg_BentWords_121 rfl dX11_fault_45 ?_
    obtain ⟨hi4, h⟩ := h
    refine bw_aaload4 (r := (bw_rf 30 ((gw_i w 0 7).toNatClampNeg))) rfl hi4 rfl dX11_fault_48 ?_
    obtain ⟨Q5, hr, h⟩ := h
    refine bw_cVi (As := [.ref (bw_rf 30 ((gw_i w 0 7).toNatClampNeg))]) (st := []) cv_BentWords_124 rfl rfl hr rfl rfl (Nat.le_of_ble_eq_true rfl) dX11_fault_49 (fun v6 w7 hv => ?_)
    replace h := h v6 w7 hv
    clear hr
    exact bw_ireturn dX11_fault_52 rfl rfl ⟨_, rfl, h⟩
  refine bw_lookD (tgt := 53) dX11_fault_1 (by decide) ?_ (by decide) ?_
  · intro q hq
    simp only [List.mem_cons, List.mem_nil_iff, or_false] at hq
    rcases hq with rfl | rfl <;> first | exact bw_nei c0 (by decide) | exact bw_nei c1 (by decide)
  · replace h := h.2.2 c0 c1
    refine bw_bipush (v := (-2)) dX11_fault_53 (by decide) ?_
    exact bw_ireturn dX11_fault_55 rfl rfl ⟨_, rfl, h⟩
theorem wfX11_text {E : bw_E} {d : Nat} {w : bw_W} {Q : Int32 → bw_W → Prop} {a0 : Int32}  (h : ((a0 = 0 → (∃ Q1 : Int32 → bw_W → Prop, bw_ri E (d + 8) mX4_findFault [.ref 4] w Q1 ∧ ∀ v2 w3, Q1 v2 w3 →
((¬ v2 = (-1) → Q (-1) w3) ∧ (v2 = (-1) → (∃ Q4 : Int32 → bw_W → Prop, bw_ri E (d + 8) mX11_adoptLexicon [.ref 0] w3 Q4 ∧ ∀ v5 w6, Q4 v5 w6 →
Q v5 w6))))) ∧ (a0 = 1 → ((4 ≤ (gw_i w 0 7) → Q (-1) w) ∧ (¬ (4 ≤ (gw_i w 0 7)) → (vp_in (gw_i w 0 7) 5) ∧
(∃ Q8 : Int32 → bw_W → Prop, bw_ri E (d + 8) mX6_findFault [.ref 17, .ref (bw_rf 30 ((gw_i w 0 7).toNatClampNeg))] w Q8 ∧ ∀ v9 w10, Q8 v9 w10 →
((¬ v9 = (-1) → Q (-1) w10) ∧ (v9 = (-1) → Q (((gw_i w10 0 7) + 1) - 1) (sw_i (sw_i w10 1 1 0) 0 7 ((gw_i w10 0 7) + 1)))))))) ∧ (¬ a0 = 0 → ¬ a0 = 1 → Q (-1) w))) : bw_ri E (d + 9) mX11_text [.ref 0, .int a0] w Q := by
  refine bw_enter rfl (Nat.le_of_ble_eq_true rfl) ?_
  refine bw_iload_n (i := 1) dX11_text_0 rfl rfl ?_
  by_cases c0 : a0 = 0
  · refine bw_lookE (off := 27) (tgt := 28) (v := 0) dX11_text_1 c0 (by decide) (by decide) (by decide) ?_
    replace h := h.1 c0
    refine bw_aload_n (i := 0) dX11_text_28 rfl rfl ?_
    refine bw_getr (r := 4) fg_BentWords_30 rfl rfl dX11_text_29 ?_
    obtain ⟨Q1, hr, h⟩ := h
    refine bw_cVi (As := []) (st := []) cv_BentWords_117 rfl rfl hr rfl rfl (Nat.le_of_ble_eq_true rfl) dX11_text_32 (fun v2 w3 hv => ?_)
    replace h := h v2 w3 hv
    clear hr
    refine bw_iconst (v := (-1)) dX11_text_35 (by decide) ?_
    refine bw_icmp_ne (tgt := 46) dX11_text_36 (by decide) (fun c => ?_) (fun c => ?_)
    · replace h := h.1 (c)
      refine bw_iconst (v := (-1)) dX11_text_46 (by decide) ?_
      exact bw_ireturn dX11_text_47 rfl rfl ⟨_, rfl, h⟩
    · replace h := h.2 (c)
      refine bw_aload_n (i := 0) dX11_text_39 rfl rfl ?_
      obtain ⟨Q4, hr, h⟩ := h
      refine bw_cVi (As := []) (st := []) cv_BentWords_127 rfl rfl hr rfl rfl (Nat.le_of_ble_eq_true rfl) dX11_text_40 (fun v5 w6 hv => ?_)
      replace h := h v5 w6 hv
      clear hr
      refine bw_goto (tgt := 47) dX11_text_43 (by decide) ?_
      exact bw_ireturn dX11_text_47 rfl rfl ⟨_, rfl, h⟩
  by_cases c1 : a0 = 1
  · refine bw_lookE (off := 47) (tgt := 48) (v := 1) dX11_text_1 c1 (by decide) (by decide) (by decide) ?_
    replace h := h.2.1 c1
    refine bw_aload_n (i := 0) dX11_text_48 rfl rfl ?_
    refine bw_geti fg_BentWords_121 rfl dX11_text_49 ?_
    refine bw_iconst (v := 4) dX11_text_52 (by decide) ?_
    refine bw_icmp_ge (tgt := 83) dX11_text_53 (by decide) (fun c => ?_) (fun c => ?_)
    · replace h := h.1 (c)
      refine bw_iconst (v := (-1)) dX11_text_83 (by decide) ?_
      exact bw_ireturn dX11_text_84 rfl rfl ⟨_, rfl, h⟩
    · replace h := h.2 (c)
      refine bw_aload_n (i := 0) dX11_text_56 rfl rfl ?_
      refine bw_getr (r := 17) fg_BentWords_37 rfl rfl dX11_text_57 ?_
      refine bw_aload_n (i := 0) dX11_text_60 rfl rfl ?_
      refine bw_getr (r := 30) fg_BentWords_50 rfl rfl dX11_text_61 ?_
      refine bw_aload_n (i := 0) dX11_text_64 rfl rfl ?_
      refine bw_geti fg_BentWords_121 rfl dX11_text_65 ?_
      obtain ⟨hi7, h⟩ := h
      refine bw_aaload4 (r := (bw_rf 30 ((gw_i w 0 7).toNatClampNeg))) rfl hi7 rfl dX11_text_68 ?_
      obtain ⟨Q8, hr, h⟩ := h
      refine bw_cVi (As := [.ref (bw_rf 30 ((gw_i w 0 7).toNatClampNeg))]) (st := []) cv_BentWords_124 rfl rfl hr rfl rfl (Nat.le_of_ble_eq_true rfl) dX11_text_69 (fun v9 w10 hv => ?_)
      replace h := h v9 w10 hv
      clear hr
      refine bw_iconst (v := (-1)) dX11_text_72 (by decide) ?_
      refine bw_icmp_ne (tgt := 83) dX11_text_73 (by decide) (fun c => ?_) (fun c => ?_)
      · replace h := h.1 (c)
        refine bw_iconst (v := (-1)) dX11_text_83 (by decide) ?_
        exact bw_ireturn dX11_text_84 rfl rfl ⟨_, rfl, h⟩
      · replace h := h.2 (c)
        refine bw_aload_n (i := 0) dX11_text_76 rfl rfl ?_
        refine bw_cVi (As := []) (st := []) (Q' := (fun v w1 => (((gw_i w10 0 7) + 1) - 1) = v ∧ (sw_i (sw_i w10 1 1 0) 0 7 ((gw_i w10 0 7) + 1)) = w1)) cv_BentWords_130 rfl rfl (fs_X11_adoptScript (d := d + 8)   ⟨rfl, rfl⟩) rfl rfl (Nat.le_of_ble_eq_true rfl) dX11_text_77 (fun v w1 hv => ?_)
        obtain ⟨rfl, rfl⟩ := hv
        refine bw_goto (tgt := 84) dX11_text_80 (by decide) ?_
        exact bw_ireturn dX11_text_84 rfl rfl ⟨_, rfl, h⟩
  refine bw_lookD (tgt := 85) dX11_text_1 (by decide) ?_ (by decide) ?_
  · intro q hq
    simp only [List.mem_cons, List.mem_nil_iff, or_false] at hq
    rcases hq with rfl | rfl <;> first | exact bw_nei c0 (by decide) | exact bw_nei c1 (by decide)
  · replace h := h.2.2 c0 c1
    refine bw_iconst (v := (-1)) dX11_text_85 (by decide) ?_
    exact bw_ireturn dX11_text_86 rfl rfl ⟨_, rfl, h⟩
theorem wfX12_fault {E : bw_E} {d : Nat} {w : bw_W} {Q : Int32 → bw_W → Prop} {a0 : Int32}  (h : ((¬ a0 = 0 → ((¬ a0 = 1 → Q (-2) w) ∧ (a0 = 1 → (∃ Q1 : Int32 → bw_W → Prop, bw_ri E (d + 8) mX12_readScript [.ref 50, .int 4] w Q1 ∧ ∀ v2 w3, Q1 v2 w3 →
Q v2 w3)))) ∧ (a0 = 0 → (∃ Q4 : Int32 → bw_W → Prop, bw_ri E (d + 8) mX12_readLexicon [.ref 50] w Q4 ∧ ∀ v5 w6, Q4 v5 w6 →
Q v5 w6)))) : bw_ri E (d + 9) mX12_fault [.ref 50, .int a0] w Q := by
  refine bw_enter rfl (Nat.le_of_ble_eq_true rfl) ?_
  refine bw_iload_n (i := 1) dX12_fault_0 rfl rfl ?_
  refine bw_if_ne (tgt := 11) dX12_fault_1 (by decide) (fun c => ?_) (fun c => ?_)
  · replace h := h.1 (c)
    refine bw_iload_n (i := 1) dX12_fault_11 rfl rfl ?_
    refine bw_iconst (v := 1) dX12_fault_12 (by decide) ?_
    refine bw_icmp_ne (tgt := 24) dX12_fault_13 (by decide) (fun c => ?_) (fun c => ?_)
    · replace h := h.1 (c)
      refine bw_bipush (v := (-2)) dX12_fault_24 (by decide) ?_
      exact bw_ireturn dX12_fault_26 rfl rfl ⟨_, rfl, h⟩
    · replace h := h.2 (c)
      refine bw_aload_n (i := 0) dX12_fault_16 rfl rfl ?_
      refine bw_iconst (v := 4) dX12_fault_17 (by decide) ?_
      obtain ⟨Q1, hr, h⟩ := h
      refine bw_cVi (As := [.int 4]) (st := []) cv_BentWordsModel_266 rfl rfl hr rfl rfl (Nat.le_of_ble_eq_true rfl) dX12_fault_18 (fun v2 w3 hv => ?_)
      replace h := h v2 w3 hv
      clear hr
      refine bw_goto (tgt := 26) dX12_fault_21 (by decide) ?_
      exact bw_ireturn dX12_fault_26 rfl rfl ⟨_, rfl, h⟩
  · replace h := h.2 (c)
    refine bw_aload_n (i := 0) dX12_fault_4 rfl rfl ?_
    obtain ⟨Q4, hr, h⟩ := h
    refine bw_cVi (As := []) (st := []) cv_BentWordsModel_263 rfl rfl hr rfl rfl (Nat.le_of_ble_eq_true rfl) dX12_fault_5 (fun v5 w6 hv => ?_)
    replace h := h v5 w6 hv
    clear hr
    refine bw_goto (tgt := 26) dX12_fault_8 (by decide) ?_
    exact bw_ireturn dX12_fault_26 rfl rfl ⟨_, rfl, h⟩
theorem wfX12_text {E : bw_E} {d : Nat} {w : bw_W} {Q : Int32 → bw_W → Prop} {a0 : Int32}  (h : ((¬ a0 = 0 → ((¬ a0 = 1 → Q (-1) w) ∧ (a0 = 1 → ((4 ≤ (gw_i w 50 25) → Q (-1) w) ∧ (¬ (4 ≤ (gw_i w 50 25)) → (∃ Q1 : Int32 → bw_W → Prop, bw_ri E (d + 8) mX12_readScript [.ref 50, .int (gw_i w 50 25)] w Q1 ∧ ∀ v2 w3, Q1 v2 w3 →
((¬ v2 = (-1) → Q (-1) w3) ∧ (v2 = (-1) → Q (((gw_i w3 50 25) + 1) - 1) (sw_i (sw_i w3 50 2 0) 50 25 ((gw_i w3 50 25) + 1)))))))))) ∧ (a0 = 0 → (∃ Q4 : Int32 → bw_W → Prop, bw_ri E (d + 8) mX12_readLexicon [.ref 50] w Q4 ∧ ∀ v5 w6, Q4 v5 w6 →
((¬ v5 = (-1) → ((¬ a0 = 1 → Q (-1) w6) ∧ (a0 = 1 → ((4 ≤ (gw_i w6 50 25) → Q (-1) w6) ∧ (¬ (4 ≤ (gw_i w6 50 25)) → (∃ Q7 : Int32 → bw_W → Prop, bw_ri E (d + 8) mX12_readScript [.ref 50, .int (gw_i w6 50 25)] w6 Q7 ∧ ∀ v8 w9, Q7 v8 w9 →
((¬ v8 = (-1) → Q (-1) w9) ∧ (v8 = (-1) → Q (((gw_i w9 50 25) + 1) - 1) (sw_i (sw_i w9 50 2 0) 50 25 ((gw_i w9 50 25) + 1)))))))))) ∧ (v5 = (-1) → (∃ Q10 : Int32 → bw_W → Prop, bw_ri E (d + 8) mX12_takeLexicon [.ref 50] (sw_i w6 50 2 0) Q10 ∧ ∀ v11 w12, Q10 v11 w12 →
Q v11 w12))))))) : bw_ri E (d + 9) mX12_text [.ref 50, .int a0] w Q := by
  refine bw_enter rfl (Nat.le_of_ble_eq_true rfl) ?_
  refine bw_iload_n (i := 1) dX12_text_0 rfl rfl ?_
  refine bw_if_ne (tgt := 22) dX12_text_1 (by decide) (fun c => ?_) (fun c => ?_)
  · replace h := h.1 (c)
    refine bw_iload_n (i := 1) dX12_text_22 rfl rfl ?_
    refine bw_iconst (v := 1) dX12_text_23 (by decide) ?_
    refine bw_icmp_ne (tgt := 69) dX12_text_24 (by decide) (fun c => ?_) (fun c => ?_)
    · replace h := h.1 (c)
      refine bw_iconst (v := (-1)) dX12_text_69 (by decide) ?_
      exact bw_ireturn dX12_text_70 rfl rfl ⟨_, rfl, h⟩
    · replace h := h.2 (c)
      refine bw_aload_n (i := 0) dX12_text_27 rfl rfl ?_
      refine bw_geti fg_BentWordsModel_293 rfl dX12_text_28 ?_
      refine bw_iconst (v := 4) dX12_text_31 (by decide) ?_
      refine bw_icmp_ge (tgt := 69) dX12_text_32 (by decide) (fun c => ?_) (fun c => ?_)
      · replace h := h.1 (c)
        refine bw_iconst (v := (-1)) dX12_text_69 (by decide) ?_
        exact bw_ireturn dX12_text_70 rfl rfl ⟨_, rfl, h⟩
      · replace h := h.2 (c)
        refine bw_aload_n (i := 0) dX12_text_35 rfl rfl ?_
        refine bw_aload_n (i := 0) dX12_text_36 rfl rfl ?_
        refine bw_geti fg_BentWordsModel_293 rfl dX12_text_37 ?_
        obtain ⟨Q1, hr, h⟩ := h
        refine bw_cVi (As := [.int (gw_i w 50 25)]) (st := []) cv_BentWordsModel_266 rfl rfl hr rfl rfl (Nat.le_of_ble_eq_true rfl) dX12_text_40 (fun v2 w3 hv => ?_)
        replace h := h v2 w3 hv
        clear hr
        refine bw_iconst (v := (-1)) dX12_text_43 (by decide) ?_
        refine bw_icmp_ne (tgt := 69) dX12_text_44 (by decide) (fun c => ?_) (fun c => ?_)
        · replace h := h.1 (c)
          refine bw_iconst (v := (-1)) dX12_text_69 (by decide) ?_
          exact bw_ireturn dX12_text_70 rfl rfl ⟨_, rfl, h⟩
        · replace h := h.2 (c)
          refine bw_aload_n (i := 0) dX12_text_47 rfl rfl ?_
          refine bw_iconst (v := 0) dX12_text_48 (by decide) ?_
          refine bw_puti fp_BentWordsModel_97 rfl rfl rfl dX12_text_49 ?_
          refine bw_aload_n (i := 0) dX12_text_52 rfl rfl ?_
          refine bw_dup dX12_text_53 rfl ?_
          refine bw_geti fg_BentWordsModel_293 rfl dX12_text_54 ?_
          rw [show gw_i (sw_i w3 50 2 0) 50 25 = (gw_i w3 50 25) from rfl]
          refine bw_iconst (v := 1) dX12_text_57 (by decide) ?_
          refine bw_iadd dX12_text_58 ?_
          refine bw_puti fp_BentWordsModel_293 rfl rfl rfl dX12_text_59 ?_
          refine bw_aload_n (i := 0) dX12_text_62 rfl rfl ?_
          refine bw_geti fg_BentWordsModel_293 rfl dX12_text_63 ?_
          rw [show gw_i (sw_i (sw_i w3 50 2 0) 50 25 ((gw_i w3 50 25) + 1)) 50 25 = ((gw_i w3 50 25) + 1) from rfl]
          refine bw_iconst (v := 1) dX12_text_66 (by decide) ?_
          refine bw_isub dX12_text_67 ?_
          exact bw_ireturn dX12_text_68 rfl rfl ⟨_, rfl, h⟩
  · replace h := h.2 (c)
    refine bw_aload_n (i := 0) dX12_text_4 rfl rfl ?_
    obtain ⟨Q4, hr, h⟩ := h
    refine bw_cVi (As := []) (st := []) cv_BentWordsModel_263 rfl rfl hr rfl rfl (Nat.le_of_ble_eq_true rfl) dX12_text_5 (fun v5 w6 hv => ?_)
    replace h := h v5 w6 hv
    clear hr
    refine bw_iconst (v := (-1)) dX12_text_8 (by decide) ?_
    refine bw_icmp_ne (tgt := 22) dX12_text_9 (by decide) (fun c => ?_) (fun c => ?_)
    · replace h := h.1 (c)
      refine bw_iload_n (i := 1) dX12_text_22 rfl rfl ?_
      refine bw_iconst (v := 1) dX12_text_23 (by decide) ?_
      refine bw_icmp_ne (tgt := 69) dX12_text_24 (by decide) (fun c => ?_) (fun c => ?_)
      · replace h := h.1 (c)
        refine bw_iconst (v := (-1)) dX12_text_69 (by decide) ?_
        exact bw_ireturn dX12_text_70 rfl rfl ⟨_, rfl, h⟩
      · replace h := h.2 (c)
        refine bw_aload_n (i := 0) dX12_text_27 rfl rfl ?_
        refine bw_geti fg_BentWordsModel_293 rfl dX12_text_28 ?_
        refine bw_iconst (v := 4) dX12_text_31 (by decide) ?_
        refine bw_icmp_ge (tgt := 69) dX12_text_32 (by decide) (fun c => ?_) (fun c => ?_)
        · replace h := h.1 (c)
          refine bw_iconst (v := (-1)) dX12_text_69 (by decide) ?_
          exact bw_ireturn dX12_text_70 rfl rfl ⟨_, rfl, h⟩
        · replace h := h.2 (c)
          refine bw_aload_n (i := 0) dX12_text_35 rfl rfl ?_
          refine bw_aload_n (i := 0) dX12_text_36 rfl rfl ?_
          refine bw_geti fg_BentWordsModel_293 rfl dX12_text_37 ?_
          obtain ⟨Q7, hr, h⟩ := h
          refine bw_cVi (As := [.int (gw_i w6 50 25)]) (st := []) cv_BentWordsModel_266 rfl rfl hr rfl rfl (Nat.le_of_ble_eq_true rfl) dX12_text_40 (fun v8 w9 hv => ?_)
          replace h := h v8 w9 hv
          clear hr
          refine bw_iconst (v := (-1)) dX12_text_43 (by decide) ?_
          refine bw_icmp_ne (tgt := 69) dX12_text_44 (by decide) (fun c => ?_) (fun c => ?_)
          · replace h := h.1 (c)
            refine bw_iconst (v := (-1)) dX12_text_69 (by decide) ?_
            exact bw_ireturn dX12_text_70 rfl rfl ⟨_, rfl, h⟩
          · replace h := h.2 (c)
            refine bw_aload_n (i := 0) dX12_text_47 rfl rfl ?_
            refine bw_iconst (v := 0) dX12_text_48 (by decide) ?_
            refine bw_puti fp_BentWordsModel_97 rfl rfl rfl dX12_text_49 ?_
            refine bw_aload_n (i := 0) dX12_text_52 rfl rfl ?_
            refine bw_dup dX12_text_53 rfl ?_
            refine bw_geti fg_BentWordsModel_293 rfl dX12_text_54 ?_
            rw [show gw_i (sw_i w9 50 2 0) 50 25 = (gw_i w9 50 25) from rfl]
            refine bw_iconst (v := 1) dX12_text_57 (by decide) ?_
            refine bw_iadd dX12_text_58 ?_
            refine bw_puti fp_BentWordsModel_293 rfl rfl rfl dX12_text_59 ?_
            refine bw_aload_n (i := 0) dX12_text_62 rfl rfl ?_
            refine bw_geti fg_BentWordsModel_293 rfl dX12_text_63 ?_
            rw [show gw_i (sw_i (sw_i w9 50 2 0) 50 25 ((gw_i w9 50 25) + 1)) 50 25 = ((gw_i w9 50 25) + 1) from rfl]
            refine bw_iconst (v := 1) dX12_text_66 (by decide) ?_
            refine bw_isub dX12_text_67 ?_
            exact bw_ireturn dX12_text_68 rfl rfl ⟨_, rfl, h⟩
    · replace h := h.2 (c)
      refine bw_aload_n (i := 0) dX12_text_12 rfl rfl ?_
      refine bw_iconst (v := 0) dX12_text_13 (by decide) ?_
      refine bw_puti fp_BentWordsModel_97 rfl rfl rfl dX12_text_14 ?_
      refine bw_aload_n (i := 0) dX12_text_17 rfl rfl ?_
      obtain ⟨Q10, hr, h⟩ := h
      refine bw_cVi (As := []) (st := []) cv_BentWordsModel_290 rfl rfl hr rfl rfl (Nat.le_of_ble_eq_true rfl) dX12_text_18 (fun v11 w12 hv => ?_)
      replace h := h v11 w12 hv
      clear hr
      exact bw_ireturn dX12_text_21 rfl rfl ⟨_, rfl, h⟩
theorem wfX12_act {E : bw_E} {d : Nat} {w : bw_W} {Q : Int32 → bw_W → Prop} {a0 : Int32} {a1 : Int32} {a2 : Int32} {a3 : Int32} {a4 : Int64}  (h : (∃ Q1 : bw_W → Prop, bw_rv E (d + 8) mX12_keep [.ref 50] w Q1 ∧ ∀ w3, Q1 w3 →
(∃ Q4 : Int32 → bw_W → Prop, bw_ri E (d + 8) mX12_doNow [.ref 50, .int a0, .int a1, .int a2, .int a3, .long a4] w3 Q4 ∧ ∀ v5 w6, Q4 v5 w6 →
(∃ Q7 : bw_W → Prop, bw_rv E (d + 8) mX12_note [.ref 50, .int a0, .int a1] w6 Q7 ∧ ∀ w9, Q7 w9 →
Q v5 w9)))) : bw_ri E (d + 9) mX12_act [.ref 50, .int a0, .int a1, .int a2, .int a3, .long a4] w Q := by
  refine bw_enter rfl (Nat.le_of_ble_eq_true rfl) ?_
  refine bw_aload_n (i := 0) dX12_act_0 rfl rfl ?_
  obtain ⟨Q1, hr, h⟩ := h
  refine bw_cVv (As := []) (st := []) cv_BentWordsModel_400 rfl rfl hr rfl rfl (Nat.le_of_ble_eq_true rfl) dX12_act_1 (fun w3 hv => ?_)
  replace h := h w3 hv
  clear hr
  refine bw_aload_n (i := 0) dX12_act_4 rfl rfl ?_
  refine bw_iload_n (i := 1) dX12_act_5 rfl rfl ?_
  refine bw_iload_n (i := 2) dX12_act_6 rfl rfl ?_
  refine bw_iload_n (i := 3) dX12_act_7 rfl rfl ?_
  refine bw_iload dX12_act_8 rfl ?_
  refine bw_lload dX12_act_10 rfl ?_
  obtain ⟨Q4, hr, h⟩ := h
  refine bw_cVi (As := [.int a0, .int a1, .int a2, .int a3, .long a4]) (st := []) cv_BentWordsModel_403 rfl rfl hr rfl rfl (Nat.le_of_ble_eq_true rfl) dX12_act_12 (fun v5 w6 hv => ?_)
  replace h := h v5 w6 hv
  clear hr
  refine bw_istore (i := 7) (L' := [some (.ref 50), some (.int a0), some (.int a1), some (.int a2), some (.int a3), some (.long a4), none, some (.int v5)]) dX12_act_15 (Nat.le_of_ble_eq_true rfl) rfl ?_
  refine bw_aload_n (i := 0) dX12_act_17 rfl rfl ?_
  refine bw_iload_n (i := 1) dX12_act_18 rfl rfl ?_
  refine bw_iload_n (i := 2) dX12_act_19 rfl rfl ?_
  obtain ⟨Q7, hr, h⟩ := h
  refine bw_cVv (As := [.int a0, .int a1]) (st := []) cv_BentWordsModel_407 rfl rfl hr rfl rfl (Nat.le_of_ble_eq_true rfl) dX12_act_20 (fun w9 hv => ?_)
  replace h := h w9 hv
  clear hr
  refine bw_iload dX12_act_23 rfl ?_
  exact bw_ireturn dX12_act_25 rfl rfl ⟨_, rfl, h⟩
theorem wfX12_hand {E : bw_E} {d : Nat} {w : bw_W} {Q : Int32 → bw_W → Prop} {a0 : Int32} {a1 : Int32} {a2 : Int32} {a3 : Int32} {a4 : Int64}  (h : (∃ Q1 : Int32 → bw_W → Prop, bw_ri E (d + 9) mX12_whyNot [.ref 50, .int a0, .int a1, .int a2, .int a3, .long a4] w Q1 ∧ ∀ v2 w3, Q1 v2 w3 →
((v2 = (-1) → (∃ Q4 : Int32 → bw_W → Prop, bw_ri E (d + 9) mX12_act [.ref 50, .int a0, .int a1, .int a2, .int a3, .long a4] w3 Q4 ∧ ∀ v5 w6, Q4 v5 w6 →
Q v5 w6)) ∧ (¬ (v2 = (-1)) → (vp_in v2 3) ∧
(vp_in v2 3) ∧
Q (-1) (sw_i w3 64 (v2.toNatClampNeg) ((gw_i w3 64 (v2.toNatClampNeg)) + 1)))))) : bw_ri E (d + 10) mX12_hand [.ref 50, .int a0, .int a1, .int a2, .int a3, .long a4] w Q := by
  refine bw_enter rfl (Nat.le_of_ble_eq_true rfl) ?_
  refine bw_aload_n (i := 0) dX12_hand_0 rfl rfl ?_
  refine bw_iload_n (i := 1) dX12_hand_1 rfl rfl ?_
  refine bw_iload_n (i := 2) dX12_hand_2 rfl rfl ?_
  refine bw_iload_n (i := 3) dX12_hand_3 rfl rfl ?_
  refine bw_iload dX12_hand_4 rfl ?_
  refine bw_lload dX12_hand_6 rfl ?_
  obtain ⟨Q1, hr, h⟩ := h
  refine bw_cVi (As := [.int a0, .int a1, .int a2, .int a3, .long a4]) (st := []) cv_BentWordsModel_411 rfl rfl hr rfl rfl (Nat.le_of_ble_eq_true rfl) dX12_hand_8 (fun v2 w3 hv => ?_)
  replace h := h v2 w3 hv
  clear hr
  refine bw_istore (i := 7) (L' := [some (.ref 50), some (.int a0), some (.int a1), some (.int a2), some (.int a3), some (.long a4), none, some (.int v2)]) dX12_hand_11 (Nat.le_of_ble_eq_true rfl) rfl ?_
  refine bw_iload dX12_hand_13 rfl ?_
  refine bw_iconst (v := (-1)) dX12_hand_15 (by decide) ?_
  refine bw_icmp_eq (tgt := 32) dX12_hand_16 (by decide) (fun c => ?_) (fun c => ?_)
  · replace h := h.1 (c)
    refine bw_aload_n (i := 0) dX12_hand_32 rfl rfl ?_
    refine bw_iload_n (i := 1) dX12_hand_33 rfl rfl ?_
    refine bw_iload_n (i := 2) dX12_hand_34 rfl rfl ?_
    refine bw_iload_n (i := 3) dX12_hand_35 rfl rfl ?_
    refine bw_iload dX12_hand_36 rfl ?_
    refine bw_lload dX12_hand_38 rfl ?_
    obtain ⟨Q4, hr, h⟩ := h
    refine bw_cVi (As := [.int a0, .int a1, .int a2, .int a3, .long a4]) (st := []) cv_BentWordsModel_414 rfl rfl hr rfl rfl (Nat.le_of_ble_eq_true rfl) dX12_hand_40 (fun v5 w6 hv => ?_)
    replace h := h v5 w6 hv
    clear hr
    exact bw_ireturn dX12_hand_43 rfl rfl ⟨_, rfl, h⟩
  · replace h := h.2 (c)
    refine bw_aload_n (i := 0) dX12_hand_19 rfl rfl ?_
    refine bw_getr (r := 64) fg_BentWordsModel_50 rfl rfl dX12_hand_20 ?_
    refine bw_iload dX12_hand_23 rfl ?_
    refine bw_dup2 dX12_hand_25 rfl rfl ?_
    obtain ⟨hi7, h⟩ := h
    refine bw_iaload rfl hi7 dX12_hand_26 ?_
    refine bw_iconst (v := 1) dX12_hand_27 (by decide) ?_
    refine bw_iadd dX12_hand_28 ?_
    obtain ⟨hi8, h⟩ := h
    refine bw_iastore rfl hi8 dX12_hand_29 ?_
    refine bw_iconst (v := (-1)) dX12_hand_30 (by decide) ?_
    exact bw_ireturn dX12_hand_31 rfl rfl ⟨_, rfl, h⟩
theorem wfX12_tryOne {E : bw_E} {d : Nat} {w : bw_W} {Q : bw_W → Prop} {a0 : Int32} {a1 : Int32} {a2 : Int32} {a3 : Int32} {a4 : Int64}  (h : (∃ Q1 : Int32 → bw_W → Prop, bw_ri E (d + 9) mX12_whyNot [.ref 50, .int a0, .int a1, .int a2, .int a3, .long a4] w Q1 ∧ ∀ v2 w3, Q1 v2 w3 →
((¬ v2 = (-1) → Q w3) ∧ (v2 = (-1) → (∃ Q4 : Int32 → bw_W → Prop, bw_ri E (d + 9) mX12_act [.ref 50, .int a0, .int a1, .int a2, .int a3, .long a4] w3 Q4 ∧ ∀ v5 w6, Q4 v5 w6 →
Q w6))))) : bw_rv E (d + 10) mX12_tryOne [.ref 50, .int a0, .int a1, .int a2, .int a3, .long a4] w Q := by
  refine bw_enter rfl (Nat.le_of_ble_eq_true rfl) ?_
  refine bw_aload_n (i := 0) dX12_tryOne_0 rfl rfl ?_
  refine bw_iload_n (i := 1) dX12_tryOne_1 rfl rfl ?_
  refine bw_iload_n (i := 2) dX12_tryOne_2 rfl rfl ?_
  refine bw_iload_n (i := 3) dX12_tryOne_3 rfl rfl ?_
  refine bw_iload dX12_tryOne_4 rfl ?_
  refine bw_lload dX12_tryOne_6 rfl ?_
  obtain ⟨Q1, hr, h⟩ := h
  refine bw_cVi (As := [.int a0, .int a1, .int a2, .int a3, .long a4]) (st := []) cv_BentWordsModel_411 rfl rfl hr rfl rfl (Nat.le_of_ble_eq_true rfl) dX12_tryOne_8 (fun v2 w3 hv => ?_)
  replace h := h v2 w3 hv
  clear hr
  refine bw_iconst (v := (-1)) dX12_tryOne_11 (by decide) ?_
  refine bw_icmp_ne (tgt := 27) dX12_tryOne_12 (by decide) (fun c => ?_) (fun c => ?_)
  · replace h := h.1 (c)
    exact bw_return dX12_tryOne_27 rfl ⟨rfl, h⟩
  · replace h := h.2 (c)
    refine bw_aload_n (i := 0) dX12_tryOne_15 rfl rfl ?_
    refine bw_iload_n (i := 1) dX12_tryOne_16 rfl rfl ?_
    refine bw_iload_n (i := 2) dX12_tryOne_17 rfl rfl ?_
    refine bw_iload_n (i := 3) dX12_tryOne_18 rfl rfl ?_
    refine bw_iload dX12_tryOne_19 rfl ?_
    refine bw_lload dX12_tryOne_21 rfl ?_
    obtain ⟨Q4, hr, h⟩ := h
    refine bw_cVi (As := [.int a0, .int a1, .int a2, .int a3, .long a4]) (st := []) cv_BentWordsModel_414 rfl rfl hr rfl rfl (Nat.le_of_ble_eq_true rfl) dX12_tryOne_23 (fun v5 w6 hv => ?_)
    replace h := h v5 w6 hv
    clear hr
    refine bw_pop dX12_tryOne_26 rfl ?_
    exact bw_return dX12_tryOne_27 rfl ⟨rfl, h⟩
theorem wfX12_guesses_23 {E : bw_E} {d : Nat} {w : bw_W} {Q : bw_W → Prop} {l1 : Int32} {l2 : Int32} {l3 : Int32} {l4 : Int32}  (h : ((3 ≤ l4 → Q (sw_i w 50 47 ((gw_i w 50 47) + 1))) ∧ (¬ (3 ≤ l4) → ((¬ (gw_i w 50 47) = 0 → Q (sw_i w 50 47 ((gw_i w 50 47) + 1))) ∧ ((gw_i w 50 47) = 0 → (((vp_in (1 + (2 * l4)) 236))) ∧
(vp_in l4 3) ∧
(((vp_in ((1 + (2 * l4)) + 1) 236))) ∧
(vp_in l4 3) ∧
bw_G E (d + 10) mX12_guesses 23 [some (.ref 50), some (.int l1), some (.int l2), some (.int l3), some (.int (l4 + 1)), none] [] (sw_i (sw_i w 74 (l4.toNatClampNeg) (vX12_nounIn w l4)) 75 (l4.toNatClampNeg) (vX12_countIn (sw_i w 74 (l4.toNatClampNeg) (vX12_nounIn w l4)) l4)) (bw_qv Q)))))) : bw_G E (d + 10) mX12_guesses 23 [some (.ref 50), some (.int l1), some (.int l2), some (.int l3), some (.int l4), none] [] w (bw_qv Q) := by
  refine bw_iload dX12_guesses_23 rfl ?_
  refine bw_iconst (v := 3) dX12_guesses_25 (by decide) ?_
  refine bw_icmp_ge (tgt := 68) dX12_guesses_26 (by decide) (fun c => ?_) (fun c => ?_)
  · replace h := h.1 (c)
    refine bw_aload_n (i := 0) dX12_guesses_68 rfl rfl ?_
    refine bw_dup dX12_guesses_69 rfl ?_
    refine bw_geti fg_BentWordsModel_487 rfl dX12_guesses_70 ?_
    refine bw_iconst (v := 1) dX12_guesses_73 (by decide) ?_
    refine bw_iadd dX12_guesses_74 ?_
    refine bw_puti fp_BentWordsModel_487 rfl rfl rfl dX12_guesses_75 ?_
    exact bw_return dX12_guesses_78 rfl ⟨rfl, h⟩
  · replace h := h.2 (c)
    refine bw_aload_n (i := 0) dX12_guesses_29 rfl rfl ?_
    refine bw_geti fg_BentWordsModel_487 rfl dX12_guesses_30 ?_
    refine bw_if_ne (tgt := 68) dX12_guesses_33 (by decide) (fun c => ?_) (fun c => ?_)
    · replace h := h.1 (c)
      refine bw_aload_n (i := 0) dX12_guesses_68 rfl rfl ?_
      refine bw_dup dX12_guesses_69 rfl ?_
      refine bw_geti fg_BentWordsModel_487 rfl dX12_guesses_70 ?_
      refine bw_iconst (v := 1) dX12_guesses_73 (by decide) ?_
      refine bw_iadd dX12_guesses_74 ?_
      refine bw_puti fp_BentWordsModel_487 rfl rfl rfl dX12_guesses_75 ?_
      exact bw_return dX12_guesses_78 rfl ⟨rfl, h⟩
    · replace h := h.2 (c)
      refine bw_aload_n (i := 0) dX12_guesses_36 rfl rfl ?_
      refine bw_getr (r := 74) fg_BentWordsModel_80 rfl rfl dX12_guesses_37 ?_
      refine bw_iload dX12_guesses_40 rfl ?_
      refine bw_aload_n (i := 0) dX12_guesses_42 rfl rfl ?_
      refine bw_iload dX12_guesses_43 rfl ?_
      obtain ⟨hc1, h⟩ := h
      refine bw_cVi (As := [.int l4]) (st := [.int l4, .ref 74]) (Q' := (fun v w1 => (vX12_nounIn w l4) = v ∧ w = w1)) cv_BentWordsModel_330 rfl rfl (fs_X12_nounIn (d := d + 9) (a0 := l4) hc1 ⟨rfl, rfl⟩) rfl rfl (Nat.le_of_ble_eq_true rfl) dX12_guesses_45 (fun v w1 hv => ?_)
      obtain ⟨rfl, rfl⟩ := hv
      obtain ⟨hi2, h⟩ := h
      refine bw_iastore rfl hi2 dX12_guesses_48 ?_
      refine bw_aload_n (i := 0) dX12_guesses_49 rfl rfl ?_
      refine bw_getr (r := 75) fg_BentWordsModel_83 rfl rfl dX12_guesses_50 ?_
      refine bw_iload dX12_guesses_53 rfl ?_
      refine bw_aload_n (i := 0) dX12_guesses_55 rfl rfl ?_
      refine bw_iload dX12_guesses_56 rfl ?_
      obtain ⟨hc3, h⟩ := h
      refine bw_cVi (As := [.int l4]) (st := [.int l4, .ref 75]) (Q' := (fun v w1 => (vX12_countIn (sw_i w 74 (l4.toNatClampNeg) (vX12_nounIn w l4)) l4) = v ∧ (sw_i w 74 (l4.toNatClampNeg) (vX12_nounIn w l4)) = w1)) cv_BentWordsModel_278 rfl rfl (fs_X12_countIn (d := d + 9) (a0 := l4) hc3 ⟨rfl, rfl⟩) rfl rfl (Nat.le_of_ble_eq_true rfl) dX12_guesses_58 (fun v w1 hv => ?_)
      obtain ⟨rfl, rfl⟩ := hv
      obtain ⟨hi4, h⟩ := h
      refine bw_iastore rfl hi4 dX12_guesses_61 ?_
      refine bw_iinc (i := 4) (x := l4) (v := (l4 + 1)) (L' := [some (.ref 50), some (.int l1), some (.int l2), some (.int l3), some (.int (l4 + 1)), none]) dX12_guesses_62 rfl rfl (Nat.le_of_ble_eq_true rfl) rfl ?_
      refine bw_goto (tgt := 23) dX12_guesses_65 (by decide) ?_
      exact h
theorem wfX12_guesses_100 {E : bw_E} {d : Nat} {w : bw_W} {Q : bw_W → Prop} {l1 : Int32} {l2 : Int32} {l3 : Int32} {l4 : Int32}  (h : (((gw_i w 50 34) ≤ l4 → Q w) ∧ (¬ ((gw_i w 50 34) ≤ l4) → bw_G E (d + 10) mX12_guesses 112 [some (.ref 50), some (.int l1), some (.int l2), some (.int l3), some (.int l4), some (.int 1)] [] w (bw_qv Q)))) : bw_G E (d + 10) mX12_guesses 100 [some (.ref 50), some (.int l1), some (.int l2), some (.int l3), some (.int l4), none] [] w (bw_qv Q) := by
  refine bw_iload dX12_guesses_100 rfl ?_
  refine bw_aload_n (i := 0) dX12_guesses_102 rfl rfl ?_
  refine bw_geti fg_BentWordsModel_269 rfl dX12_guesses_103 ?_
  refine bw_icmp_ge (tgt := 149) dX12_guesses_106 (by decide) (fun c => ?_) (fun c => ?_)
  · replace h := h.1 (c)
    exact bw_return dX12_guesses_149 rfl ⟨rfl, h⟩
  · replace h := h.2 (c)
    refine bw_iconst (v := 1) dX12_guesses_109 (by decide) ?_
    refine bw_istore (i := 5) (L' := [some (.ref 50), some (.int l1), some (.int l2), some (.int l3), some (.int l4), some (.int 1)]) dX12_guesses_110 (Nat.le_of_ble_eq_true rfl) rfl ?_
    exact h
theorem wfX12_guesses_112 {E : bw_E} {d : Nat} {w : bw_W} {Q : bw_W → Prop} {l1 : Int32} {l2 : Int32} {l3 : Int32} {l4 : Int32} {l5 : Int32}  (h : ((3 ≤ l5 → bw_G E (d + 10) mX12_guesses 100 [some (.ref 50), some (.int l1), some (.int l2), some (.int l3), some (.int (l4 + 1)), none] [] w (bw_qv Q)) ∧ (¬ (3 ≤ l5) → (((vp_in (1 + (2 * l3)) 236))) ∧
(((vp_in ((1 + (2 * l3)) + 1) 236))) ∧
(((((((vp_in ((1 + (2 * l3)) + 1) 236))))))) ∧
(∃ Q4 : bw_W → Prop, bw_rv E (d + 9) mX12_guesses [.ref 50, .int l1, .int l2, .int (l3 + 1)] (sw_l (sw_l w 63 ((1 + (2 * l3)).toNatClampNeg) (l4.toInt64)) 63 (((1 + (2 * l3)) + 1).toNatClampNeg) (l5.toInt64)) Q4 ∧ ∀ w6, Q4 w6 →
bw_G E (d + 10) mX12_guesses 112 [some (.ref 50), some (.int l1), some (.int l2), some (.int l3), some (.int l4), some (.int (l5 + 1))] [] w6 (bw_qv Q))))) : bw_G E (d + 10) mX12_guesses 112 [some (.ref 50), some (.int l1), some (.int l2), some (.int l3), some (.int l4), some (.int l5)] [] w (bw_qv Q) := by
  refine bw_iload dX12_guesses_112 rfl ?_
  refine bw_iconst (v := 3) dX12_guesses_114 (by decide) ?_
  refine bw_icmp_ge (tgt := 143) dX12_guesses_115 (by decide) (fun c => ?_) (fun c => ?_)
  · replace h := h.1 (c)
    refine bw_iinc (i := 4) (x := l4) (v := (l4 + 1)) (L' := [some (.ref 50), some (.int l1), some (.int l2), some (.int l3), some (.int (l4 + 1)), some (.int l5)]) dX12_guesses_143 rfl rfl (Nat.le_of_ble_eq_true rfl) rfl ?_
    refine bw_goto (tgt := 100) dX12_guesses_146 (by decide) ?_
    exact bw_wk [5] rfl h
  · replace h := h.2 (c)
    refine bw_aload_n (i := 0) dX12_guesses_118 rfl rfl ?_
    refine bw_iload_n (i := 3) dX12_guesses_119 rfl rfl ?_
    refine bw_iload dX12_guesses_120 rfl ?_
    refine bw_iload dX12_guesses_122 rfl ?_
    obtain ⟨hc1, h⟩ := h
    obtain ⟨hc2, h⟩ := h
    obtain ⟨hc3, h⟩ := h
    refine bw_cVi (As := [.int l3, .int l4, .int l5]) (st := []) (Q' := (fun v w1 => (vX12_fillsNow w l3 l4 l5) = v ∧ (sw_l (sw_l w 63 ((1 + (2 * l3)).toNatClampNeg) (l4.toInt64)) 63 (((1 + (2 * l3)) + 1).toNatClampNeg) (l5.toInt64)) = w1)) cv_BentWordsModel_386 rfl rfl (fs_X12_fillsNow (d := d + 7) (a0 := l3) (a1 := l4) (a2 := l5) hc1 hc2 hc3 ⟨rfl, rfl⟩) rfl rfl (Nat.le_of_ble_eq_true rfl) dX12_guesses_124 (fun v w1 hv => ?_)
    obtain ⟨rfl, rfl⟩ := hv
    refine bw_pop dX12_guesses_127 rfl ?_
    refine bw_aload_n (i := 0) dX12_guesses_128 rfl rfl ?_
    refine bw_iload_n (i := 1) dX12_guesses_129 rfl rfl ?_
    refine bw_iload_n (i := 2) dX12_guesses_130 rfl rfl ?_
    refine bw_iload_n (i := 3) dX12_guesses_131 rfl rfl ?_
    refine bw_iconst (v := 1) dX12_guesses_132 (by decide) ?_
    refine bw_iadd dX12_guesses_133 ?_
    obtain ⟨Q4, hr, h⟩ := h
    refine bw_cVv (As := [.int l1, .int l2, .int (l3 + 1)]) (st := []) cv_BentWordsModel_490 rfl rfl hr rfl rfl (Nat.le_of_ble_eq_true rfl) dX12_guesses_134 (fun w6 hv => ?_)
    replace h := h w6 hv
    clear hr
    refine bw_iinc (i := 5) (x := l5) (v := (l5 + 1)) (L' := [some (.ref 50), some (.int l1), some (.int l2), some (.int l3), some (.int l4), some (.int (l5 + 1))]) dX12_guesses_137 rfl rfl (Nat.le_of_ble_eq_true rfl) rfl ?_
    refine bw_goto (tgt := 112) dX12_guesses_140 (by decide) ?_
    exact h
theorem wfX12_guesses {E : bw_E} {d : Nat} {w : bw_W} {Q : bw_W → Prop} {a0 : Int32} {a1 : Int32} {a2 : Int32}  (h : ((¬ a2 = 3 → (((((a1 >>> (a2 &&& 31)) &&& 1) = 1) → bw_G E (d + 10) mX12_guesses 100 [some (.ref 50), some (.int a0), some (.int a1), some (.int a2), some (.int 0), none] [] w (bw_qv Q)) ∧ (¬ (((a1 >>> (a2 &&& 31)) &&& 1) = 1) → (∃ Q1 : bw_W → Prop, bw_rv E (d + 9) mX12_guesses [.ref 50, .int a0, .int a1, .int (a2 + 1)] w Q1 ∧ ∀ w3, Q1 w3 →
Q w3)))) ∧ (a2 = 3 → (∃ Q4 : Bool → bw_W → Prop, bw_rb E (d + 9) mX12_tellsNow [.ref 50, .int a0] w Q4 ∧ ∀ v5 w6, Q4 v5 w6 →
((v5 = false → Q w6) ∧ (v5 = true → (∃ Q7 : Bool → bw_W → Prop, bw_rb E (d + 9) mX12_isTape [.ref 50] w6 Q7 ∧ ∀ v8 w9, Q7 v8 w9 →
((v8 = false → Q w9) ∧ (v8 = true → bw_G E (d + 10) mX12_guesses 23 [some (.ref 50), some (.int a0), some (.int a1), some (.int a2), some (.int 0), none] [] w9 (bw_qv Q)))))))))) : bw_rv E (d + 10) mX12_guesses [.ref 50, .int a0, .int a1, .int a2] w Q := by
  refine bw_enter rfl (Nat.le_of_ble_eq_true rfl) ?_
  refine bw_iload_n (i := 3) dX12_guesses_0 rfl rfl ?_
  refine bw_iconst (v := 3) dX12_guesses_1 (by decide) ?_
  refine bw_icmp_ne (tgt := 79) dX12_guesses_2 (by decide) (fun c => ?_) (fun c => ?_)
  · replace h := h.1 (c)
    refine bw_iload_n (i := 2) dX12_guesses_79 rfl rfl ?_
    refine bw_iload_n (i := 3) dX12_guesses_80 rfl rfl ?_
    refine bw_cSb (As := [.int a1, .int a2]) (st := []) (Q' := (fun v w1 => (decide (((a1 >>> (a2 &&& 31)) &&& 1) = 1)) = v ∧ w = w1)) cs_BentWordsModel_471 (fs_X12_has (d := d + 9) (a0 := a1) (a1 := a2)  ⟨rfl, rfl⟩) rfl rfl (Nat.le_of_ble_eq_true rfl) dX12_guesses_81 (fun v w1 hv => ?_)
    obtain ⟨rfl, rfl⟩ := hv
    refine bw_ifb_ne (tgt := 97) dX12_guesses_84 (by decide) (fun c => ?_) (fun c => ?_)
    · replace h := h.1 (of_decide_eq_true c)
      refine bw_iconst (v := 0) dX12_guesses_97 (by decide) ?_
      refine bw_istore (i := 4) (L' := [some (.ref 50), some (.int a0), some (.int a1), some (.int a2), some (.int 0), none]) dX12_guesses_98 (Nat.le_of_ble_eq_true rfl) rfl ?_
      exact h
    · replace h := h.2 (of_decide_eq_false c)
      refine bw_aload_n (i := 0) dX12_guesses_87 rfl rfl ?_
      refine bw_iload_n (i := 1) dX12_guesses_88 rfl rfl ?_
      refine bw_iload_n (i := 2) dX12_guesses_89 rfl rfl ?_
      refine bw_iload_n (i := 3) dX12_guesses_90 rfl rfl ?_
      refine bw_iconst (v := 1) dX12_guesses_91 (by decide) ?_
      refine bw_iadd dX12_guesses_92 ?_
      obtain ⟨Q1, hr, h⟩ := h
      refine bw_cVv (As := [.int a0, .int a1, .int (a2 + 1)]) (st := []) cv_BentWordsModel_490 rfl rfl hr rfl rfl (Nat.le_of_ble_eq_true rfl) dX12_guesses_93 (fun w3 hv => ?_)
      replace h := h w3 hv
      clear hr
      exact bw_return dX12_guesses_96 rfl ⟨rfl, h⟩
  · replace h := h.2 (c)
    refine bw_aload_n (i := 0) dX12_guesses_5 rfl rfl ?_
    refine bw_iload_n (i := 1) dX12_guesses_6 rfl rfl ?_
    obtain ⟨Q4, hr, h⟩ := h
    refine bw_cVb (As := [.int a0]) (st := []) cv_BentWordsModel_364 rfl rfl hr rfl rfl (Nat.le_of_ble_eq_true rfl) dX12_guesses_7 (fun v5 w6 hv => ?_)
    replace h := h v5 w6 hv
    clear hr
    refine bw_ifb_eq (tgt := 78) dX12_guesses_10 (by decide) (fun c => ?_) (fun c => ?_)
    · replace h := h.1 (c)
      exact bw_return dX12_guesses_78 rfl ⟨rfl, h⟩
    · replace h := h.2 (c)
      refine bw_aload_n (i := 0) dX12_guesses_13 rfl rfl ?_
      obtain ⟨Q7, hr, h⟩ := h
      refine bw_cVb (As := []) (st := []) cv_BentWordsModel_484 rfl rfl hr rfl rfl (Nat.le_of_ble_eq_true rfl) dX12_guesses_14 (fun v8 w9 hv => ?_)
      replace h := h v8 w9 hv
      clear hr
      refine bw_ifb_eq (tgt := 78) dX12_guesses_17 (by decide) (fun c => ?_) (fun c => ?_)
      · replace h := h.1 (c)
        exact bw_return dX12_guesses_78 rfl ⟨rfl, h⟩
      · replace h := h.2 (c)
        refine bw_iconst (v := 0) dX12_guesses_20 (by decide) ?_
        refine bw_istore (i := 4) (L' := [some (.ref 50), some (.int a0), some (.int a1), some (.int a2), some (.int 0), none]) dX12_guesses_21 (Nat.le_of_ble_eq_true rfl) rfl ?_
        exact h
theorem wfX12_goSteps_2 {E : bw_E} {d : Nat} {w : bw_W} {Q : Int32 → bw_W → Prop} {l1 : Int32} {l2 : Int32} {l3 : Int32}  (h : (vp_in l1 5) ∧
(((gw_i w 62 (l1.toNatClampNeg)) ≤ l3 → (vp_in l1 5) ∧
Q (gw_i w 62 (l1.toNatClampNeg)) w) ∧ (¬ ((gw_i w 62 (l1.toNatClampNeg)) ≤ l3) → (vp_in ((12 * l1) + l3) 60) ∧
(vp_in (4 * ((12 * l1) + l3)) 240) ∧
(vp_in ((4 * ((12 * l1) + l3)) + 1) 240) ∧
(vp_in ((4 * ((12 * l1) + l3)) + 2) 240) ∧
(vp_in ((4 * ((12 * l1) + l3)) + 3) 240) ∧
(∃ Q8 : Int32 → bw_W → Prop, bw_ri E (d + 9) mX12_whyNot [.ref 50, .int (gw_i w 60 ((4 * ((12 * l1) + l3)).toNatClampNeg)), .int (gw_i w 60 (((4 * ((12 * l1) + l3)) + 1).toNatClampNeg)), .int (gw_i w 60 (((4 * ((12 * l1) + l3)) + 2).toNatClampNeg)), .int (gw_i w 60 (((4 * ((12 * l1) + l3)) + 3).toNatClampNeg)), .long (gw_l w 61 (((12 * l1) + l3).toNatClampNeg))] w Q8 ∧ ∀ v9 w10, Q8 v9 w10 →
((v9 = (-1) → ((l2 = 0 → (vp_in (4 * ((12 * l1) + l3)) 240) ∧
(vp_in ((4 * ((12 * l1) + l3)) + 1) 240) ∧
(vp_in ((4 * ((12 * l1) + l3)) + 2) 240) ∧
(vp_in ((4 * ((12 * l1) + l3)) + 3) 240) ∧
(∃ Q15 : Int32 → bw_W → Prop, bw_ri E (d + 9) mX12_doNow [.ref 50, .int (gw_i w10 60 ((4 * ((12 * l1) + l3)).toNatClampNeg)), .int (gw_i w10 60 (((4 * ((12 * l1) + l3)) + 1).toNatClampNeg)), .int (gw_i w10 60 (((4 * ((12 * l1) + l3)) + 2).toNatClampNeg)), .int (gw_i w10 60 (((4 * ((12 * l1) + l3)) + 3).toNatClampNeg)), .long (gw_l w 61 (((12 * l1) + l3).toNatClampNeg))] w10 Q15 ∧ ∀ v16 w17, Q15 v16 w17 →
bw_G E (d + 10) mX12_goSteps 2 [some (.ref 50), some (.int l1), some (.int l2), some (.int (l3 + 1)), none, none, none] [] w17 (bw_qi Q))) ∧ (¬ (l2 = 0) → (vp_in (4 * ((12 * l1) + l3)) 240) ∧
(vp_in ((4 * ((12 * l1) + l3)) + 1) 240) ∧
(vp_in ((4 * ((12 * l1) + l3)) + 2) 240) ∧
(vp_in ((4 * ((12 * l1) + l3)) + 3) 240) ∧
(∃ Q22 : Int32 → bw_W → Prop, bw_ri E (d + 9) mX12_act [.ref 50, .int (gw_i w10 60 ((4 * ((12 * l1) + l3)).toNatClampNeg)), .int (gw_i w10 60 (((4 * ((12 * l1) + l3)) + 1).toNatClampNeg)), .int (gw_i w10 60 (((4 * ((12 * l1) + l3)) + 2).toNatClampNeg)), .int (gw_i w10 60 (((4 * ((12 * l1) + l3)) + 3).toNatClampNeg)), .long (gw_l w 61 (((12 * l1) + l3).toNatClampNeg))] w10 Q22 ∧ ∀ v23 w24, Q22 v23 w24 →
bw_G E (d + 10) mX12_goSteps 2 [some (.ref 50), some (.int l1), some (.int l2), some (.int (l3 + 1)), none, none, none] [] w24 (bw_qi Q))))) ∧ (¬ (v9 = (-1)) → Q l3 w10)))))) : bw_G E (d + 10) mX12_goSteps 2 [some (.ref 50), some (.int l1), some (.int l2), some (.int l3), none, none, none] [] w (bw_qi Q) := by
  refine bw_iload_n (i := 3) dX12_goSteps_2 rfl rfl ?_
  refine bw_aload_n (i := 0) dX12_goSteps_3 rfl rfl ?_
  refine bw_getr (r := 62) fg_BentWordsModel_44 rfl rfl dX12_goSteps_4 ?_
  refine bw_iload_n (i := 1) dX12_goSteps_7 rfl rfl ?_
  obtain ⟨hi1, h⟩ := h
  refine bw_iaload rfl hi1 dX12_goSteps_8 ?_
  refine bw_icmp_ge (tgt := 176) dX12_goSteps_9 (by decide) (fun c => ?_) (fun c => ?_)
  · replace h := h.1 (c)
    refine bw_aload_n (i := 0) dX12_goSteps_176 rfl rfl ?_
    refine bw_getr (r := 62) fg_BentWordsModel_44 rfl rfl dX12_goSteps_177 ?_
    refine bw_iload_n (i := 1) dX12_goSteps_180 rfl rfl ?_
    obtain ⟨hi2, h⟩ := h
    refine bw_iaload rfl hi2 dX12_goSteps_181 ?_
    exact bw_ireturn dX12_goSteps_182 rfl rfl ⟨_, rfl, h⟩
  · replace h := h.2 (c)
    refine bw_iconst (v := 4) dX12_goSteps_12 (by decide) ?_
    refine bw_bipush (v := 12) dX12_goSteps_13 (by decide) ?_
    refine bw_iload_n (i := 1) dX12_goSteps_15 rfl rfl ?_
    refine bw_imul dX12_goSteps_16 ?_
    refine bw_iload_n (i := 3) dX12_goSteps_17 rfl rfl ?_
    refine bw_iadd dX12_goSteps_18 ?_
    refine bw_imul dX12_goSteps_19 ?_
    refine bw_istore (i := 4) (L' := [some (.ref 50), some (.int l1), some (.int l2), some (.int l3), some (.int (4 * ((12 * l1) + l3))), none, none]) dX12_goSteps_20 (Nat.le_of_ble_eq_true rfl) rfl ?_
    refine bw_aload_n (i := 0) dX12_goSteps_22 rfl rfl ?_
    refine bw_getr (r := 61) fg_BentWordsModel_41 rfl rfl dX12_goSteps_23 ?_
    refine bw_bipush (v := 12) dX12_goSteps_26 (by decide) ?_
    refine bw_iload_n (i := 1) dX12_goSteps_28 rfl rfl ?_
    refine bw_imul dX12_goSteps_29 ?_
    refine bw_iload_n (i := 3) dX12_goSteps_30 rfl rfl ?_
    refine bw_iadd dX12_goSteps_31 ?_
    obtain ⟨hi3, h⟩ := h
    refine bw_laload rfl hi3 dX12_goSteps_32 ?_
    refine bw_lstore (i := 5) (L' := [some (.ref 50), some (.int l1), some (.int l2), some (.int l3), some (.int (4 * ((12 * l1) + l3))), some (.long (gw_l w 61 (((12 * l1) + l3).toNatClampNeg))), none]) dX12_goSteps_33 (Nat.le_of_ble_eq_true rfl) rfl ?_
    refine bw_aload_n (i := 0) dX12_goSteps_35 rfl rfl ?_
    refine bw_aload_n (i := 0) dX12_goSteps_36 rfl rfl ?_
    refine bw_getr (r := 60) fg_BentWordsModel_38 rfl rfl dX12_goSteps_37 ?_
    refine bw_iload dX12_goSteps_40 rfl ?_
    obtain ⟨hi4, h⟩ := h
    refine bw_iaload rfl hi4 dX12_goSteps_42 ?_
    refine bw_aload_n (i := 0) dX12_goSteps_43 rfl rfl ?_
    refine bw_getr (r := 60) fg_BentWordsModel_38 rfl rfl dX12_goSteps_44 ?_
    refine bw_iload dX12_goSteps_47 rfl ?_
    refine bw_iconst (v := 1) dX12_goSteps_49 (by decide) ?_
    refine bw_iadd dX12_goSteps_50 ?_
    obtain ⟨hi5, h⟩ := h
    refine bw_iaload rfl hi5 dX12_goSteps_51 ?_
    refine bw_aload_n (i := 0) dX12_goSteps_52 rfl rfl ?_
    refine bw_getr (r := 60) fg_BentWordsModel_38 rfl rfl dX12_goSteps_53 ?_
    refine bw_iload dX12_goSteps_56 rfl ?_
    refine bw_iconst (v := 2) dX12_goSteps_58 (by decide) ?_
    refine bw_iadd dX12_goSteps_59 ?_
    obtain ⟨hi6, h⟩ := h
    refine bw_iaload rfl hi6 dX12_goSteps_60 ?_
    refine bw_aload_n (i := 0) dX12_goSteps_61 rfl rfl ?_
    refine bw_getr (r := 60) fg_BentWordsModel_38 rfl rfl dX12_goSteps_62 ?_
    refine bw_iload dX12_goSteps_65 rfl ?_
    refine bw_iconst (v := 3) dX12_goSteps_67 (by decide) ?_
    refine bw_iadd dX12_goSteps_68 ?_
    obtain ⟨hi7, h⟩ := h
    refine bw_iaload rfl hi7 dX12_goSteps_69 ?_
    refine bw_lload dX12_goSteps_70 rfl ?_
    obtain ⟨Q8, hr, h⟩ := h
    refine bw_cVi (As := [.int (gw_i w 60 ((4 * ((12 * l1) + l3)).toNatClampNeg)), .int (gw_i w 60 (((4 * ((12 * l1) + l3)) + 1).toNatClampNeg)), .int (gw_i w 60 (((4 * ((12 * l1) + l3)) + 2).toNatClampNeg)), .int (gw_i w 60 (((4 * ((12 * l1) + l3)) + 3).toNatClampNeg)), .long (gw_l w 61 (((12 * l1) + l3).toNatClampNeg))]) (st := []) cv_BentWordsModel_411 rfl rfl hr rfl rfl (Nat.le_of_ble_eq_true rfl) dX12_goSteps_72 (fun v9 w10 hv => ?_)
    replace h := h v9 w10 hv
    clear hr
    refine bw_iconst (v := (-1)) dX12_goSteps_75 (by decide) ?_
    refine bw_icmp_eq (tgt := 81) dX12_goSteps_76 (by decide) (fun c => ?_) (fun c => ?_)
    · replace h := h.1 (c)
      refine bw_iload_n (i := 2) dX12_goSteps_81 rfl rfl ?_
      refine bw_if_eq (tgt := 129) dX12_goSteps_82 (by decide) (fun c => ?_) (fun c => ?_)
      · replace h := h.1 (c)
        refine bw_aload_n (i := 0) dX12_goSteps_129 rfl rfl ?_
        refine bw_aload_n (i := 0) dX12_goSteps_130 rfl rfl ?_
        refine bw_getr (r := 60) fg_BentWordsModel_38 rfl rfl dX12_goSteps_131 ?_
        refine bw_iload dX12_goSteps_134 rfl ?_
        obtain ⟨hi11, h⟩ := h
        refine bw_iaload rfl hi11 dX12_goSteps_136 ?_
        refine bw_aload_n (i := 0) dX12_goSteps_137 rfl rfl ?_
        refine bw_getr (r := 60) fg_BentWordsModel_38 rfl rfl dX12_goSteps_138 ?_
        refine bw_iload dX12_goSteps_141 rfl ?_
        refine bw_iconst (v := 1) dX12_goSteps_143 (by decide) ?_
        refine bw_iadd dX12_goSteps_144 ?_
        obtain ⟨hi12, h⟩ := h
        refine bw_iaload rfl hi12 dX12_goSteps_145 ?_
        refine bw_aload_n (i := 0) dX12_goSteps_146 rfl rfl ?_
        refine bw_getr (r := 60) fg_BentWordsModel_38 rfl rfl dX12_goSteps_147 ?_
        refine bw_iload dX12_goSteps_150 rfl ?_
        refine bw_iconst (v := 2) dX12_goSteps_152 (by decide) ?_
        refine bw_iadd dX12_goSteps_153 ?_
        obtain ⟨hi13, h⟩ := h
        refine bw_iaload rfl hi13 dX12_goSteps_154 ?_
        refine bw_aload_n (i := 0) dX12_goSteps_155 rfl rfl ?_
        refine bw_getr (r := 60) fg_BentWordsModel_38 rfl rfl dX12_goSteps_156 ?_
        refine bw_iload dX12_goSteps_159 rfl ?_
        refine bw_iconst (v := 3) dX12_goSteps_161 (by decide) ?_
        refine bw_iadd dX12_goSteps_162 ?_
        obtain ⟨hi14, h⟩ := h
        refine bw_iaload rfl hi14 dX12_goSteps_163 ?_
        refine bw_lload dX12_goSteps_164 rfl ?_
        obtain ⟨Q15, hr, h⟩ := h
        refine bw_cVi (As := [.int (gw_i w10 60 ((4 * ((12 * l1) + l3)).toNatClampNeg)), .int (gw_i w10 60 (((4 * ((12 * l1) + l3)) + 1).toNatClampNeg)), .int (gw_i w10 60 (((4 * ((12 * l1) + l3)) + 2).toNatClampNeg)), .int (gw_i w10 60 (((4 * ((12 * l1) + l3)) + 3).toNatClampNeg)), .long (gw_l w 61 (((12 * l1) + l3).toNatClampNeg))]) (st := []) cv_BentWordsModel_403 rfl rfl hr rfl rfl (Nat.le_of_ble_eq_true rfl) dX12_goSteps_166 (fun v16 w17 hv => ?_)
        replace h := h v16 w17 hv
        clear hr
        refine bw_pop dX12_goSteps_169 rfl ?_
        refine bw_iinc (i := 3) (x := l3) (v := (l3 + 1)) (L' := [some (.ref 50), some (.int l1), some (.int l2), some (.int (l3 + 1)), some (.int (4 * ((12 * l1) + l3))), some (.long (gw_l w 61 (((12 * l1) + l3).toNatClampNeg))), none]) dX12_goSteps_170 rfl rfl (Nat.le_of_ble_eq_true rfl) rfl ?_
        refine bw_goto (tgt := 2) dX12_goSteps_173 (by decide) ?_
        exact bw_wk [4, 5] rfl h
      · replace h := h.2 (c)
        refine bw_aload_n (i := 0) dX12_goSteps_85 rfl rfl ?_
        refine bw_aload_n (i := 0) dX12_goSteps_86 rfl rfl ?_
        refine bw_getr (r := 60) fg_BentWordsModel_38 rfl rfl dX12_goSteps_87 ?_
        refine bw_iload dX12_goSteps_90 rfl ?_
        obtain ⟨hi18, h⟩ := h
        refine bw_iaload rfl hi18 dX12_goSteps_92 ?_
        refine bw_aload_n (i := 0) dX12_goSteps_93 rfl rfl ?_
        refine bw_getr (r := 60) fg_BentWordsModel_38 rfl rfl dX12_goSteps_94 ?_
        refine bw_iload dX12_goSteps_97 rfl ?_
        refine bw_iconst (v := 1) dX12_goSteps_99 (by decide) ?_
        refine bw_iadd dX12_goSteps_100 ?_
        obtain ⟨hi19, h⟩ := h
        refine bw_iaload rfl hi19 dX12_goSteps_101 ?_
        refine bw_aload_n (i := 0) dX12_goSteps_102 rfl rfl ?_
        refine bw_getr (r := 60) fg_BentWordsModel_38 rfl rfl dX12_goSteps_103 ?_
        refine bw_iload dX12_goSteps_106 rfl ?_
        refine bw_iconst (v := 2) dX12_goSteps_108 (by decide) ?_
        refine bw_iadd dX12_goSteps_109 ?_
        obtain ⟨hi20, h⟩ := h
        refine bw_iaload rfl hi20 dX12_goSteps_110 ?_
        refine bw_aload_n (i := 0) dX12_goSteps_111 rfl rfl ?_
        refine bw_getr (r := 60) fg_BentWordsModel_38 rfl rfl dX12_goSteps_112 ?_
        refine bw_iload dX12_goSteps_115 rfl ?_
        refine bw_iconst (v := 3) dX12_goSteps_117 (by decide) ?_
        refine bw_iadd dX12_goSteps_118 ?_
        obtain ⟨hi21, h⟩ := h
        refine bw_iaload rfl hi21 dX12_goSteps_119 ?_
        refine bw_lload dX12_goSteps_120 rfl ?_
        obtain ⟨Q22, hr, h⟩ := h
        refine bw_cVi (As := [.int (gw_i w10 60 ((4 * ((12 * l1) + l3)).toNatClampNeg)), .int (gw_i w10 60 (((4 * ((12 * l1) + l3)) + 1).toNatClampNeg)), .int (gw_i w10 60 (((4 * ((12 * l1) + l3)) + 2).toNatClampNeg)), .int (gw_i w10 60 (((4 * ((12 * l1) + l3)) + 3).toNatClampNeg)), .long (gw_l w 61 (((12 * l1) + l3).toNatClampNeg))]) (st := []) cv_BentWordsModel_414 rfl rfl hr rfl rfl (Nat.le_of_ble_eq_true rfl) dX12_goSteps_122 (fun v23 w24 hv => ?_)
        replace h := h v23 w24 hv
        clear hr
        refine bw_pop dX12_goSteps_125 rfl ?_
        refine bw_goto (tgt := 170) dX12_goSteps_126 (by decide) ?_
        refine bw_iinc (i := 3) (x := l3) (v := (l3 + 1)) (L' := [some (.ref 50), some (.int l1), some (.int l2), some (.int (l3 + 1)), some (.int (4 * ((12 * l1) + l3))), some (.long (gw_l w 61 (((12 * l1) + l3).toNatClampNeg))), none]) dX12_goSteps_170 rfl rfl (Nat.le_of_ble_eq_true rfl) rfl ?_
        refine bw_goto (tgt := 2) dX12_goSteps_173 (by decide) ?_
        exact bw_wk [4, 5] rfl h
    · replace h := h.2 (c)
      refine bw_iload_n (i := 3) dX12_goSteps_79 rfl rfl ?_
      exact bw_ireturn dX12_goSteps_80 rfl rfl ⟨_, rfl, h⟩
theorem wfX12_goSteps {E : bw_E} {d : Nat} {w : bw_W} {Q : Int32 → bw_W → Prop} {a0 : Int32} {a1 : Bool}  (h : bw_G E (d + 10) mX12_goSteps 2 [some (.ref 50), some (.int a0), some (.int (bw_b a1)), some (.int 0), none, none, none] [] w (bw_qi Q)) : bw_ri E (d + 10) mX12_goSteps [.ref 50, .int a0, .int (bw_b a1)] w Q := by
  refine bw_enter rfl (Nat.le_of_ble_eq_true rfl) ?_
  refine bw_iconst (v := 0) dX12_goSteps_0 (by decide) ?_
  refine bw_istore_n (i := 3) (L' := [some (.ref 50), some (.int a0), some (.int (bw_b a1)), some (.int 0), none, none, none]) dX12_goSteps_1 rfl (Nat.le_of_ble_eq_true rfl) rfl ?_
  exact h
theorem wfX12_fill {E : bw_E} {d : Nat} {w : bw_W} {Q : Int32 → bw_W → Prop} {a0 : Int32} {a1 : Int32} {a2 : Int32}  (h : (∃ Q1 : Int32 → bw_W → Prop, bw_ri E (d + 10) mX12_hand [.ref 50, .int 0, .int a0, .int a1, .int a2, .long 0] w Q1 ∧ ∀ v2 w3, Q1 v2 w3 →
Q v2 w3)) : bw_ri E (d + 11) mX12_fill [.ref 50, .int a0, .int a1, .int a2] w Q := by
  refine bw_enter rfl (Nat.le_of_ble_eq_true rfl) ?_
  refine bw_aload_n (i := 0) dX12_fill_0 rfl rfl ?_
  refine bw_iconst (v := 0) dX12_fill_1 (by decide) ?_
  refine bw_iload_n (i := 1) dX12_fill_2 rfl rfl ?_
  refine bw_iload_n (i := 2) dX12_fill_3 rfl rfl ?_
  refine bw_iload_n (i := 3) dX12_fill_4 rfl rfl ?_
  refine bw_lconst (v := 0) dX12_fill_5 rfl ?_
  obtain ⟨Q1, hr, h⟩ := h
  refine bw_cVi (As := [.int 0, .int a0, .int a1, .int a2, .long 0]) (st := []) cv_BentWordsModel_417 rfl rfl hr rfl rfl (Nat.le_of_ble_eq_true rfl) dX12_fill_6 (fun v2 w3 hv => ?_)
  replace h := h v2 w3 hv
  clear hr
  exact bw_ireturn dX12_fill_9 rfl rfl ⟨_, rfl, h⟩
theorem wfX12_empty {E : bw_E} {d : Nat} {w : bw_W} {Q : Int32 → bw_W → Prop} {a0 : Int32}  (h : (∃ Q1 : Int32 → bw_W → Prop, bw_ri E (d + 10) mX12_hand [.ref 50, .int 1, .int a0, .int 0, .int 0, .long 0] w Q1 ∧ ∀ v2 w3, Q1 v2 w3 →
Q v2 w3)) : bw_ri E (d + 11) mX12_empty [.ref 50, .int a0] w Q := by
  refine bw_enter rfl (Nat.le_of_ble_eq_true rfl) ?_
  refine bw_aload_n (i := 0) dX12_empty_0 rfl rfl ?_
  refine bw_iconst (v := 1) dX12_empty_1 (by decide) ?_
  refine bw_iload_n (i := 1) dX12_empty_2 rfl rfl ?_
  refine bw_iconst (v := 0) dX12_empty_3 (by decide) ?_
  refine bw_iconst (v := 0) dX12_empty_4 (by decide) ?_
  refine bw_lconst (v := 0) dX12_empty_5 rfl ?_
  obtain ⟨Q1, hr, h⟩ := h
  refine bw_cVi (As := [.int 1, .int a0, .int 0, .int 0, .long 0]) (st := []) cv_BentWordsModel_417 rfl rfl hr rfl rfl (Nat.le_of_ble_eq_true rfl) dX12_empty_6 (fun v2 w3 hv => ?_)
  replace h := h v2 w3 hv
  clear hr
  exact bw_ireturn dX12_empty_9 rfl rfl ⟨_, rfl, h⟩
theorem wfX12_strict {E : bw_E} {d : Nat} {w : bw_W} {Q : Int32 → bw_W → Prop} {a0 : Int32}  (h : (∃ Q1 : Int32 → bw_W → Prop, bw_ri E (d + 10) mX12_hand [.ref 50, .int 2, .int a0, .int 0, .int 0, .long 0] w Q1 ∧ ∀ v2 w3, Q1 v2 w3 →
Q v2 w3)) : bw_ri E (d + 11) mX12_strict [.ref 50, .int a0] w Q := by
  refine bw_enter rfl (Nat.le_of_ble_eq_true rfl) ?_
  refine bw_aload_n (i := 0) dX12_strict_0 rfl rfl ?_
  refine bw_iconst (v := 2) dX12_strict_1 (by decide) ?_
  refine bw_iload_n (i := 1) dX12_strict_2 rfl rfl ?_
  refine bw_iconst (v := 0) dX12_strict_3 (by decide) ?_
  refine bw_iconst (v := 0) dX12_strict_4 (by decide) ?_
  refine bw_lconst (v := 0) dX12_strict_5 rfl ?_
  obtain ⟨Q1, hr, h⟩ := h
  refine bw_cVi (As := [.int 2, .int a0, .int 0, .int 0, .long 0]) (st := []) cv_BentWordsModel_417 rfl rfl hr rfl rfl (Nat.le_of_ble_eq_true rfl) dX12_strict_6 (fun v2 w3 hv => ?_)
  replace h := h v2 w3 hv
  clear hr
  exact bw_ireturn dX12_strict_9 rfl rfl ⟨_, rfl, h⟩
theorem wfX12_tell {E : bw_E} {d : Nat} {w : bw_W} {Q : Int32 → bw_W → Prop} {a0 : Int32} {a1 : Int32} {a2 : Int32}  (h : (∃ Q1 : Int64 → bw_W → Prop, bw_rl E (d + 10) mX12_tapeWord [.ref 50] w Q1 ∧ ∀ v2 w3, Q1 v2 w3 →
(∃ Q4 : Int32 → bw_W → Prop, bw_ri E (d + 10) mX12_hand [.ref 50, .int 3, .int a0, .int a1, .int a2, .long v2] w3 Q4 ∧ ∀ v5 w6, Q4 v5 w6 →
((¬ v5 = (-1) → Q v5 (sw_i w6 50 2 0)) ∧ (v5 = (-1) → Q v5 (sw_i w6 50 2 (gw_i w6 50 2))))))) : bw_ri E (d + 11) mX12_tell [.ref 50, .int a0, .int a1, .int a2] w Q := by
  refine bw_enter rfl (Nat.le_of_ble_eq_true rfl) ?_
  refine bw_aload_n (i := 0) dX12_tell_0 rfl rfl ?_
  refine bw_iconst (v := 3) dX12_tell_1 (by decide) ?_
  refine bw_iload_n (i := 1) dX12_tell_2 rfl rfl ?_
  refine bw_iload_n (i := 2) dX12_tell_3 rfl rfl ?_
  refine bw_iload_n (i := 3) dX12_tell_4 rfl rfl ?_
  refine bw_aload_n (i := 0) dX12_tell_5 rfl rfl ?_
  obtain ⟨Q1, hr, h⟩ := h
  refine bw_cVl (As := []) (st := [.int a2, .int a1, .int a0, .int 3, .ref 50]) cv_BentWordsModel_420 rfl rfl hr rfl rfl (Nat.le_of_ble_eq_true rfl) dX12_tell_6 (fun v2 w3 hv => ?_)
  replace h := h v2 w3 hv
  clear hr
  obtain ⟨Q4, hr, h⟩ := h
  refine bw_cVi (As := [.int 3, .int a0, .int a1, .int a2, .long v2]) (st := []) cv_BentWordsModel_417 rfl rfl hr rfl rfl (Nat.le_of_ble_eq_true rfl) dX12_tell_9 (fun v5 w6 hv => ?_)
  replace h := h v5 w6 hv
  clear hr
  refine bw_istore (i := 4) (L' := [some (.ref 50), some (.int a0), some (.int a1), some (.int a2), some (.int v5)]) dX12_tell_12 (Nat.le_of_ble_eq_true rfl) rfl ?_
  refine bw_aload_n (i := 0) dX12_tell_14 rfl rfl ?_
  refine bw_iload dX12_tell_15 rfl ?_
  refine bw_iconst (v := (-1)) dX12_tell_17 (by decide) ?_
  refine bw_icmp_ne (tgt := 28) dX12_tell_18 (by decide) (fun c => ?_) (fun c => ?_)
  · replace h := h.1 (c)
    refine bw_iconst (v := 0) dX12_tell_28 (by decide) ?_
    refine bw_puti fp_BentWordsModel_97 rfl rfl rfl dX12_tell_29 ?_
    refine bw_iload dX12_tell_32 rfl ?_
    exact bw_ireturn dX12_tell_34 rfl rfl ⟨_, rfl, h⟩
  · replace h := h.2 (c)
    refine bw_aload_n (i := 0) dX12_tell_21 rfl rfl ?_
    refine bw_geti fg_BentWordsModel_97 rfl dX12_tell_22 ?_
    refine bw_goto (tgt := 29) dX12_tell_25 (by decide) ?_
    refine bw_puti fp_BentWordsModel_97 rfl rfl rfl dX12_tell_29 ?_
    refine bw_iload dX12_tell_32 rfl ?_
    exact bw_ireturn dX12_tell_34 rfl rfl ⟨_, rfl, h⟩
theorem wfX12_drop {E : bw_E} {d : Nat} {w : bw_W} {Q : Int32 → bw_W → Prop} {a0 : Int32} {a1 : Int32} {a2 : Int32}  (h : (∃ Q1 : Int32 → bw_W → Prop, bw_ri E (d + 10) mX12_hand [.ref 50, .int 4, .int a0, .int a1, .int a2, .long 0] w Q1 ∧ ∀ v2 w3, Q1 v2 w3 →
Q v2 w3)) : bw_ri E (d + 11) mX12_drop [.ref 50, .int a0, .int a1, .int a2] w Q := by
  refine bw_enter rfl (Nat.le_of_ble_eq_true rfl) ?_
  refine bw_aload_n (i := 0) dX12_drop_0 rfl rfl ?_
  refine bw_iconst (v := 4) dX12_drop_1 (by decide) ?_
  refine bw_iload_n (i := 1) dX12_drop_2 rfl rfl ?_
  refine bw_iload_n (i := 2) dX12_drop_3 rfl rfl ?_
  refine bw_iload_n (i := 3) dX12_drop_4 rfl rfl ?_
  refine bw_lconst (v := 0) dX12_drop_5 rfl ?_
  obtain ⟨Q1, hr, h⟩ := h
  refine bw_cVi (As := [.int 4, .int a0, .int a1, .int a2, .long 0]) (st := []) cv_BentWordsModel_417 rfl rfl hr rfl rfl (Nat.le_of_ble_eq_true rfl) dX12_drop_6 (fun v2 w3 hv => ?_)
  replace h := h v2 w3 hv
  clear hr
  exact bw_ireturn dX12_drop_9 rfl rfl ⟨_, rfl, h⟩
theorem wfX12_drawsForm_28 {E : bw_E} {d : Nat} {w : bw_W} {Q : bw_W → Prop} {l1 : Int32} {l2 : Int32} {l3 : Int32} {l4 : Int32} {l5 : Int64} {l7 : Int32}  (h : ((3 ≤ l7 → ((l1 = 0 → (∃ Q1 : bw_W → Prop, bw_rv E (d + 10) mX12_tryOne [.ref 50, .int 4, .int l2, .int l3, .int l4, .long l5] w Q1 ∧ ∀ w3, Q1 w3 →
Q w3)) ∧ (¬ (l1 = 0) → (∃ Q4 : bw_W → Prop, bw_rv E (d + 10) mX12_tryOne [.ref 50, .int 3, .int l2, .int l3, .int l4, .long l5] w Q4 ∧ ∀ w6, Q4 w6 →
Q w6)))) ∧ (¬ (3 ≤ l7) → ((l1 = 0 → ((l1 = 0 → (∃ Q7 : bw_W → Prop, bw_rv E (d + 10) mX12_tryOne [.ref 50, .int 4, .int l2, .int l3, .int l4, .long l5] w Q7 ∧ ∀ w9, Q7 w9 →
Q w9)) ∧ (¬ (l1 = 0) → (∃ Q10 : bw_W → Prop, bw_rv E (d + 10) mX12_tryOne [.ref 50, .int 3, .int l2, .int l3, .int l4, .long l5] w Q10 ∧ ∀ w12, Q10 w12 →
Q w12)))) ∧ (¬ (l1 = 0) → (((¬ ((3 : Int32).toInt64) = 0))) ∧
bw_G E (d + 11) mX12_drawsForm 28 [some (.ref 50), some (.int l1), some (.int l2), some (.int l3), some (.int l4), some (.long (((27 * l5) + ((vX12_draw w (3 : Int32)).toInt64)) + 1)), none, some (.int (l7 + 1))] [] (sw_l w 50 43 (((gw_l w 50 43) * 6364136223846793005) + 1442695040888963407)) (bw_qv Q)))))) : bw_G E (d + 11) mX12_drawsForm 28 [some (.ref 50), some (.int l1), some (.int l2), some (.int l3), some (.int l4), some (.long l5), none, some (.int l7)] [] w (bw_qv Q) := by
  refine bw_iload dX12_drawsForm_28 rfl ?_
  refine bw_iconst (v := 3) dX12_drawsForm_30 (by decide) ?_
  refine bw_icmp_ge (tgt := 61) dX12_drawsForm_31 (by decide) (fun c => ?_) (fun c => ?_)
  · replace h := h.1 (c)
    refine bw_aload_n (i := 0) dX12_drawsForm_61 rfl rfl ?_
    refine bw_iload_n (i := 1) dX12_drawsForm_62 rfl rfl ?_
    refine bw_if_eq (tgt := 70) dX12_drawsForm_63 (by decide) (fun c => ?_) (fun c => ?_)
    · replace h := h.1 (c)
      refine bw_iconst (v := 4) dX12_drawsForm_70 (by decide) ?_
      refine bw_iload_n (i := 2) dX12_drawsForm_71 rfl rfl ?_
      refine bw_iload_n (i := 3) dX12_drawsForm_72 rfl rfl ?_
      refine bw_iload dX12_drawsForm_73 rfl ?_
      refine bw_lload dX12_drawsForm_75 rfl ?_
      obtain ⟨Q1, hr, h⟩ := h
      refine bw_cVv (As := [.int 4, .int l2, .int l3, .int l4, .long l5]) (st := []) cv_BentWordsModel_433 rfl rfl hr rfl rfl (Nat.le_of_ble_eq_true rfl) dX12_drawsForm_77 (fun w3 hv => ?_)
      replace h := h w3 hv
      clear hr
      exact bw_return dX12_drawsForm_80 rfl ⟨rfl, h⟩
    · replace h := h.2 (c)
      refine bw_iconst (v := 3) dX12_drawsForm_66 (by decide) ?_
      refine bw_goto (tgt := 71) dX12_drawsForm_67 (by decide) ?_
      refine bw_iload_n (i := 2) dX12_drawsForm_71 rfl rfl ?_
      refine bw_iload_n (i := 3) dX12_drawsForm_72 rfl rfl ?_
      refine bw_iload dX12_drawsForm_73 rfl ?_
      refine bw_lload dX12_drawsForm_75 rfl ?_
      obtain ⟨Q4, hr, h⟩ := h
      refine bw_cVv (As := [.int 3, .int l2, .int l3, .int l4, .long l5]) (st := []) cv_BentWordsModel_433 rfl rfl hr rfl rfl (Nat.le_of_ble_eq_true rfl) dX12_drawsForm_77 (fun w6 hv => ?_)
      replace h := h w6 hv
      clear hr
      exact bw_return dX12_drawsForm_80 rfl ⟨rfl, h⟩
  · replace h := h.2 (c)
    refine bw_iload_n (i := 1) dX12_drawsForm_34 rfl rfl ?_
    refine bw_if_eq (tgt := 61) dX12_drawsForm_35 (by decide) (fun c => ?_) (fun c => ?_)
    · replace h := h.1 (c)
      refine bw_aload_n (i := 0) dX12_drawsForm_61 rfl rfl ?_
      refine bw_iload_n (i := 1) dX12_drawsForm_62 rfl rfl ?_
      refine bw_if_eq (tgt := 70) dX12_drawsForm_63 (by decide) (fun c => ?_) (fun c => ?_)
      · replace h := h.1 (c)
        refine bw_iconst (v := 4) dX12_drawsForm_70 (by decide) ?_
        refine bw_iload_n (i := 2) dX12_drawsForm_71 rfl rfl ?_
        refine bw_iload_n (i := 3) dX12_drawsForm_72 rfl rfl ?_
        refine bw_iload dX12_drawsForm_73 rfl ?_
        refine bw_lload dX12_drawsForm_75 rfl ?_
        obtain ⟨Q7, hr, h⟩ := h
        refine bw_cVv (As := [.int 4, .int l2, .int l3, .int l4, .long l5]) (st := []) cv_BentWordsModel_433 rfl rfl hr rfl rfl (Nat.le_of_ble_eq_true rfl) dX12_drawsForm_77 (fun w9 hv => ?_)
        replace h := h w9 hv
        clear hr
        exact bw_return dX12_drawsForm_80 rfl ⟨rfl, h⟩
      · replace h := h.2 (c)
        refine bw_iconst (v := 3) dX12_drawsForm_66 (by decide) ?_
        refine bw_goto (tgt := 71) dX12_drawsForm_67 (by decide) ?_
        refine bw_iload_n (i := 2) dX12_drawsForm_71 rfl rfl ?_
        refine bw_iload_n (i := 3) dX12_drawsForm_72 rfl rfl ?_
        refine bw_iload dX12_drawsForm_73 rfl ?_
        refine bw_lload dX12_drawsForm_75 rfl ?_
        obtain ⟨Q10, hr, h⟩ := h
        refine bw_cVv (As := [.int 3, .int l2, .int l3, .int l4, .long l5]) (st := []) cv_BentWordsModel_433 rfl rfl hr rfl rfl (Nat.le_of_ble_eq_true rfl) dX12_drawsForm_77 (fun w12 hv => ?_)
        replace h := h w12 hv
        clear hr
        exact bw_return dX12_drawsForm_80 rfl ⟨rfl, h⟩
    · replace h := h.2 (c)
      refine bw_ldc2 kl_BentWordsModel_122 dX12_drawsForm_38 ?_
      refine bw_lload dX12_drawsForm_41 rfl ?_
      refine bw_lmul dX12_drawsForm_43 ?_
      refine bw_aload_n (i := 0) dX12_drawsForm_44 rfl rfl ?_
      refine bw_iconst (v := 3) dX12_drawsForm_45 (by decide) ?_
      obtain ⟨hc13, h⟩ := h
      refine bw_cVi (As := [.int 3]) (st := [.long (27 * l5)]) (Q' := (fun v w1 => (vX12_draw w (3 : Int32)) = v ∧ (sw_l w 50 43 (((gw_l w 50 43) * 6364136223846793005) + 1442695040888963407)) = w1)) cv_BentWordsModel_430 rfl rfl (fs_X12_draw (d := d + 10) (a0 := (3 : Int32)) hc13 ⟨rfl, rfl⟩) rfl rfl (Nat.le_of_ble_eq_true rfl) dX12_drawsForm_46 (fun v w1 hv => ?_)
      obtain ⟨rfl, rfl⟩ := hv
      refine bw_i2l dX12_drawsForm_49 ?_
      refine bw_ladd dX12_drawsForm_50 ?_
      refine bw_lconst (v := 1) dX12_drawsForm_51 rfl ?_
      refine bw_ladd dX12_drawsForm_52 ?_
      refine bw_lstore (i := 5) (L' := [some (.ref 50), some (.int l1), some (.int l2), some (.int l3), some (.int l4), some (.long (((27 * l5) + ((vX12_draw w (3 : Int32)).toInt64)) + 1)), none, some (.int l7)]) dX12_drawsForm_53 (Nat.le_of_ble_eq_true rfl) rfl ?_
      refine bw_iinc (i := 7) (x := l7) (v := (l7 + 1)) (L' := [some (.ref 50), some (.int l1), some (.int l2), some (.int l3), some (.int l4), some (.long (((27 * l5) + ((vX12_draw w (3 : Int32)).toInt64)) + 1)), none, some (.int (l7 + 1))]) dX12_drawsForm_55 rfl rfl (Nat.le_of_ble_eq_true rfl) rfl ?_
      refine bw_goto (tgt := 28) dX12_drawsForm_58 (by decide) ?_
      exact h
theorem wfX12_drawsForm {E : bw_E} {d : Nat} {w : bw_W} {Q : bw_W → Prop} {a0 : Bool}  (h : (((¬ ((gw_i w 50 34).toInt64) = 0))) ∧
(((¬ ((4 : Int32).toInt64) = 0))) ∧
(((¬ ((2 : Int32).toInt64) = 0))) ∧
bw_G E (d + 11) mX12_drawsForm 28 [some (.ref 50), some (.int (bw_b a0)), some (.int (vX12_draw w (gw_i w 50 34))), some (.int (vX12_draw (sw_l w 50 43 (((gw_l w 50 43) * 6364136223846793005) + 1442695040888963407)) (4 : Int32))), some (.int (vX12_draw (sw_l (sw_l w 50 43 (((gw_l w 50 43) * 6364136223846793005) + 1442695040888963407)) 50 43 (((gw_l (sw_l w 50 43 (((gw_l w 50 43) * 6364136223846793005) + 1442695040888963407)) 50 43) * 6364136223846793005) + 1442695040888963407)) (2 : Int32))), some (.long 0), none, some (.int 0)] [] (sw_l (sw_l (sw_l w 50 43 (((gw_l w 50 43) * 6364136223846793005) + 1442695040888963407)) 50 43 (((gw_l (sw_l w 50 43 (((gw_l w 50 43) * 6364136223846793005) + 1442695040888963407)) 50 43) * 6364136223846793005) + 1442695040888963407)) 50 43 (((gw_l (sw_l (sw_l w 50 43 (((gw_l w 50 43) * 6364136223846793005) + 1442695040888963407)) 50 43 (((gw_l (sw_l w 50 43 (((gw_l w 50 43) * 6364136223846793005) + 1442695040888963407)) 50 43) * 6364136223846793005) + 1442695040888963407)) 50 43) * 6364136223846793005) + 1442695040888963407)) (bw_qv Q)) : bw_rv E (d + 11) mX12_drawsForm [.ref 50, .int (bw_b a0)] w Q := by
  refine bw_enter rfl (Nat.le_of_ble_eq_true rfl) ?_
  refine bw_aload_n (i := 0) dX12_drawsForm_0 rfl rfl ?_
  refine bw_aload_n (i := 0) dX12_drawsForm_1 rfl rfl ?_
  refine bw_geti fg_BentWordsModel_269 rfl dX12_drawsForm_2 ?_
  obtain ⟨hc1, h⟩ := h
  refine bw_cVi (As := [.int (gw_i w 50 34)]) (st := []) (Q' := (fun v w1 => (vX12_draw w (gw_i w 50 34)) = v ∧ (sw_l w 50 43 (((gw_l w 50 43) * 6364136223846793005) + 1442695040888963407)) = w1)) cv_BentWordsModel_430 rfl rfl (fs_X12_draw (d := d + 10) (a0 := (gw_i w 50 34)) hc1 ⟨rfl, rfl⟩) rfl rfl (Nat.le_of_ble_eq_true rfl) dX12_drawsForm_5 (fun v w1 hv => ?_)
  obtain ⟨rfl, rfl⟩ := hv
  refine bw_istore_n (i := 2) (L' := [some (.ref 50), some (.int (bw_b a0)), some (.int (vX12_draw w (gw_i w 50 34))), none, none, none, none, none]) dX12_drawsForm_8 rfl (Nat.le_of_ble_eq_true rfl) rfl ?_
  refine bw_aload_n (i := 0) dX12_drawsForm_9 rfl rfl ?_
  refine bw_iconst (v := 4) dX12_drawsForm_10 (by decide) ?_
  obtain ⟨hc2, h⟩ := h
  refine bw_cVi (As := [.int 4]) (st := []) (Q' := (fun v w1 => (vX12_draw (sw_l w 50 43 (((gw_l w 50 43) * 6364136223846793005) + 1442695040888963407)) (4 : Int32)) = v ∧ (sw_l (sw_l w 50 43 (((gw_l w 50 43) * 6364136223846793005) + 1442695040888963407)) 50 43 (((gw_l (sw_l w 50 43 (((gw_l w 50 43) * 6364136223846793005) + 1442695040888963407)) 50 43) * 6364136223846793005) + 1442695040888963407)) = w1)) cv_BentWordsModel_430 rfl rfl (fs_X12_draw (d := d + 10) (a0 := (4 : Int32)) hc2 ⟨rfl, rfl⟩) rfl rfl (Nat.le_of_ble_eq_true rfl) dX12_drawsForm_11 (fun v w1 hv => ?_)
  obtain ⟨rfl, rfl⟩ := hv
  refine bw_istore_n (i := 3) (L' := [some (.ref 50), some (.int (bw_b a0)), some (.int (vX12_draw w (gw_i w 50 34))), some (.int (vX12_draw (sw_l w 50 43 (((gw_l w 50 43) * 6364136223846793005) + 1442695040888963407)) (4 : Int32))), none, none, none, none]) dX12_drawsForm_14 rfl (Nat.le_of_ble_eq_true rfl) rfl ?_
  refine bw_aload_n (i := 0) dX12_drawsForm_15 rfl rfl ?_
  refine bw_iconst (v := 2) dX12_drawsForm_16 (by decide) ?_
  obtain ⟨hc3, h⟩ := h
  refine bw_cVi (As := [.int 2]) (st := []) (Q' := (fun v w1 => (vX12_draw (sw_l (sw_l w 50 43 (((gw_l w 50 43) * 6364136223846793005) + 1442695040888963407)) 50 43 (((gw_l (sw_l w 50 43 (((gw_l w 50 43) * 6364136223846793005) + 1442695040888963407)) 50 43) * 6364136223846793005) + 1442695040888963407)) (2 : Int32)) = v ∧ (sw_l (sw_l (sw_l w 50 43 (((gw_l w 50 43) * 6364136223846793005) + 1442695040888963407)) 50 43 (((gw_l (sw_l w 50 43 (((gw_l w 50 43) * 6364136223846793005) + 1442695040888963407)) 50 43) * 6364136223846793005) + 1442695040888963407)) 50 43 (((gw_l (sw_l (sw_l w 50 43 (((gw_l w 50 43) * 6364136223846793005) + 1442695040888963407)) 50 43 (((gw_l (sw_l w 50 43 (((gw_l w 50 43) * 6364136223846793005) + 1442695040888963407)) 50 43) * 6364136223846793005) + 1442695040888963407)) 50 43) * 6364136223846793005) + 1442695040888963407)) = w1)) cv_BentWordsModel_430 rfl rfl (fs_X12_draw (d := d + 10) (a0 := (2 : Int32)) hc3 ⟨rfl, rfl⟩) rfl rfl (Nat.le_of_ble_eq_true rfl) dX12_drawsForm_17 (fun v w1 hv => ?_)
  obtain ⟨rfl, rfl⟩ := hv
  refine bw_istore (i := 4) (L' := [some (.ref 50), some (.int (bw_b a0)), some (.int (vX12_draw w (gw_i w 50 34))), some (.int (vX12_draw (sw_l w 50 43 (((gw_l w 50 43) * 6364136223846793005) + 1442695040888963407)) (4 : Int32))), some (.int (vX12_draw (sw_l (sw_l w 50 43 (((gw_l w 50 43) * 6364136223846793005) + 1442695040888963407)) 50 43 (((gw_l (sw_l w 50 43 (((gw_l w 50 43) * 6364136223846793005) + 1442695040888963407)) 50 43) * 6364136223846793005) + 1442695040888963407)) (2 : Int32))), none, none, none]) dX12_drawsForm_20 (Nat.le_of_ble_eq_true rfl) rfl ?_
  refine bw_lconst (v := 0) dX12_drawsForm_22 rfl ?_
  refine bw_lstore (i := 5) (L' := [some (.ref 50), some (.int (bw_b a0)), some (.int (vX12_draw w (gw_i w 50 34))), some (.int (vX12_draw (sw_l w 50 43 (((gw_l w 50 43) * 6364136223846793005) + 1442695040888963407)) (4 : Int32))), some (.int (vX12_draw (sw_l (sw_l w 50 43 (((gw_l w 50 43) * 6364136223846793005) + 1442695040888963407)) 50 43 (((gw_l (sw_l w 50 43 (((gw_l w 50 43) * 6364136223846793005) + 1442695040888963407)) 50 43) * 6364136223846793005) + 1442695040888963407)) (2 : Int32))), some (.long 0), none, none]) dX12_drawsForm_23 (Nat.le_of_ble_eq_true rfl) rfl ?_
  refine bw_iconst (v := 0) dX12_drawsForm_25 (by decide) ?_
  refine bw_istore (i := 7) (L' := [some (.ref 50), some (.int (bw_b a0)), some (.int (vX12_draw w (gw_i w 50 34))), some (.int (vX12_draw (sw_l w 50 43 (((gw_l w 50 43) * 6364136223846793005) + 1442695040888963407)) (4 : Int32))), some (.int (vX12_draw (sw_l (sw_l w 50 43 (((gw_l w 50 43) * 6364136223846793005) + 1442695040888963407)) 50 43 (((gw_l (sw_l w 50 43 (((gw_l w 50 43) * 6364136223846793005) + 1442695040888963407)) 50 43) * 6364136223846793005) + 1442695040888963407)) (2 : Int32))), some (.long 0), none, some (.int 0)]) dX12_drawsForm_26 (Nat.le_of_ble_eq_true rfl) rfl ?_
  exact h
theorem wfX12_guess {E : bw_E} {d : Nat} {w : bw_W} {Q : Int32 → bw_W → Prop} {a0 : Int32} {a1 : Int32}  (h : ((¬ ((¬ ((gw_i w 50 34) ≤ 0)) ∧ ((¬ (a0 < 0)) ∧ (¬ (((gw_i w 50 35) - 1) < a0)))) → Q (-1) w) ∧ ((¬ ((gw_i w 50 34) ≤ 0)) ∧ ((¬ (a0 < 0)) ∧ (¬ (((gw_i w 50 35) - 1) < a0))) → (((¬ (a1 < (-1))) ∧ (¬ (5 < a1)) → (∃ Q1 : Int32 → bw_W → Prop, bw_ri E (d + 10) mX12_askedBy [.ref 50, .int a0] w Q1 ∧ ∀ v2 w3, Q1 v2 w3 →
(∃ Q4 : bw_W → Prop, bw_rv E (d + 10) mX12_putAside [.ref 50] (sw_i w3 50 47 0) Q4 ∧ ∀ w6, Q4 w6 →
(∃ Q7 : bw_W → Prop, bw_rv E (d + 10) mX12_guesses [.ref 50, .int a0, .int v2, .int 0] w6 Q7 ∧ ∀ w9, Q7 w9 →
(∃ Q10 : bw_W → Prop, bw_rv E (d + 10) mX12_bringBack [.ref 50] w9 Q10 ∧ ∀ w12, Q10 w12 →
((¬ a1 = (-1) → (((gw_i w12 50 47) ≤ 0 → Q (-1) w12) ∧ (¬ ((gw_i w12 50 47) ≤ 0) → ((¬ (((v2 >>> ((a1 - a1 / 3 * 3) &&& 31)) &&& 1) = 1) → Q (-1) w12) ∧ ((((v2 >>> ((a1 - a1 / 3 * 3) &&& 31)) &&& 1) = 1) → ((3 ≤ a1 → (vp_in (a1 - 3) 3) ∧
Q (gw_i w12 75 ((a1 - 3).toNatClampNeg)) w12) ∧ (¬ (3 ≤ a1) → (vp_in a1 3) ∧
Q (gw_i w12 74 (a1.toNatClampNeg)) w12))))))) ∧ (a1 = (-1) → ((¬ (gw_i w12 50 47) = 0 → Q (gw_i w12 50 47) w12) ∧ ((gw_i w12 50 47) = 0 → Q (-1) w12))))))))) ∧ (¬ ((¬ (a1 < (-1))) ∧ (¬ (5 < a1))) → Q (-1) w))))) : bw_ri E (d + 11) mX12_guess [.ref 50, .int a0, .int a1] w Q := by
  refine bw_enter rfl (Nat.le_of_ble_eq_true rfl) ?_
  refine bw_aload_n (i := 0) dX12_guess_0 rfl rfl ?_
  refine bw_iload_n (i := 1) dX12_guess_1 rfl rfl ?_
  refine bw_cVb (As := [.int a0]) (st := []) (Q' := (fun v w1 => (decide ((¬ ((gw_i w 50 34) ≤ 0)) ∧ ((¬ (a0 < 0)) ∧ (¬ (((gw_i w 50 35) - 1) < a0))))) = v ∧ w = w1)) cv_BentWordsModel_453 rfl rfl (fs_X12_isMessage (d := d + 9) (a0 := a0)  ⟨rfl, rfl⟩) rfl rfl (Nat.le_of_ble_eq_true rfl) dX12_guess_2 (fun v w1 hv => ?_)
  obtain ⟨rfl, rfl⟩ := hv
  refine bw_ifb_eq (tgt := 17) dX12_guess_5 (by decide) (fun c => ?_) (fun c => ?_)
  · replace h := h.1 (of_decide_eq_false c)
    refine bw_iconst (v := (-1)) dX12_guess_17 (by decide) ?_
    exact bw_ireturn dX12_guess_18 rfl rfl ⟨_, rfl, h⟩
  · replace h := h.2 (of_decide_eq_true c)
    refine bw_iload_n (i := 2) dX12_guess_8 rfl rfl ?_
    refine bw_iconst (v := (-1)) dX12_guess_9 (by decide) ?_
    refine bw_iconst (v := 5) dX12_guess_10 (by decide) ?_
    refine bw_cSb (As := [.int a1, .int (-1), .int 5]) (st := []) (Q' := (fun v w1 => (decide ((¬ (a1 < (-1))) ∧ (¬ (5 < a1)))) = v ∧ w = w1)) cs_BentWordsModel_100 (fs_X12_in (d := d + 10) (a0 := a1) (a1 := (-1)) (a2 := 5)  ⟨rfl, rfl⟩) rfl rfl (Nat.le_of_ble_eq_true rfl) dX12_guess_11 (fun v w1 hv => ?_)
    obtain ⟨rfl, rfl⟩ := hv
    refine bw_ifb_ne (tgt := 19) dX12_guess_14 (by decide) (fun c => ?_) (fun c => ?_)
    · replace h := h.1 (of_decide_eq_true c)
      refine bw_aload_n (i := 0) dX12_guess_19 rfl rfl ?_
      refine bw_iload_n (i := 1) dX12_guess_20 rfl rfl ?_
      obtain ⟨Q1, hr, h⟩ := h
      refine bw_cVi (As := [.int a0]) (st := []) cv_BentWordsModel_456 rfl rfl hr rfl rfl (Nat.le_of_ble_eq_true rfl) dX12_guess_21 (fun v2 w3 hv => ?_)
      replace h := h v2 w3 hv
      clear hr
      refine bw_istore_n (i := 3) (L' := [some (.ref 50), some (.int a0), some (.int a1), some (.int v2), none]) dX12_guess_24 rfl (Nat.le_of_ble_eq_true rfl) rfl ?_
      refine bw_aload_n (i := 0) dX12_guess_25 rfl rfl ?_
      refine bw_iconst (v := 0) dX12_guess_26 (by decide) ?_
      refine bw_puti fp_BentWordsModel_487 rfl rfl rfl dX12_guess_27 ?_
      refine bw_aload_n (i := 0) dX12_guess_30 rfl rfl ?_
      obtain ⟨Q4, hr, h⟩ := h
      refine bw_cVv (As := []) (st := []) cv_BentWordsModel_478 rfl rfl hr rfl rfl (Nat.le_of_ble_eq_true rfl) dX12_guess_31 (fun w6 hv => ?_)
      replace h := h w6 hv
      clear hr
      refine bw_aload_n (i := 0) dX12_guess_34 rfl rfl ?_
      refine bw_iload_n (i := 1) dX12_guess_35 rfl rfl ?_
      refine bw_iload_n (i := 3) dX12_guess_36 rfl rfl ?_
      refine bw_iconst (v := 0) dX12_guess_37 (by decide) ?_
      obtain ⟨Q7, hr, h⟩ := h
      refine bw_cVv (As := [.int a0, .int v2, .int 0]) (st := []) cv_BentWordsModel_490 rfl rfl hr rfl rfl (Nat.le_of_ble_eq_true rfl) dX12_guess_38 (fun w9 hv => ?_)
      replace h := h w9 hv
      clear hr
      refine bw_aload_n (i := 0) dX12_guess_41 rfl rfl ?_
      obtain ⟨Q10, hr, h⟩ := h
      refine bw_cVv (As := []) (st := []) cv_BentWordsModel_481 rfl rfl hr rfl rfl (Nat.le_of_ble_eq_true rfl) dX12_guess_42 (fun w12 hv => ?_)
      replace h := h w12 hv
      clear hr
      refine bw_iload_n (i := 2) dX12_guess_45 rfl rfl ?_
      refine bw_iconst (v := (-1)) dX12_guess_46 (by decide) ?_
      refine bw_icmp_ne (tgt := 66) dX12_guess_47 (by decide) (fun c => ?_) (fun c => ?_)
      · replace h := h.1 (c)
        refine bw_aload_n (i := 0) dX12_guess_66 rfl rfl ?_
        refine bw_geti fg_BentWordsModel_487 rfl dX12_guess_67 ?_
        refine bw_if_le (tgt := 87) dX12_guess_70 (by decide) (fun c => ?_) (fun c => ?_)
        · replace h := h.1 (c)
          refine bw_iconst (v := 0) dX12_guess_87 (by decide) ?_
          refine bw_istore (i := 4) (L' := [some (.ref 50), some (.int a0), some (.int a1), some (.int v2), some (.int 0)]) dX12_guess_88 (Nat.le_of_ble_eq_true rfl) rfl ?_
          refine bw_iload dX12_guess_90 rfl ?_
          refine bw_if_ne (tgt := 99) dX12_guess_92 (by decide) (fun c => absurd c (by decide)) (fun _ => ?_)
          refine bw_iconst (v := (-1)) dX12_guess_95 (by decide) ?_
          refine bw_goto (tgt := 121) dX12_guess_96 (by decide) ?_
          exact bw_ireturn dX12_guess_121 rfl rfl ⟨_, rfl, h⟩
        · replace h := h.2 (c)
          refine bw_iload_n (i := 3) dX12_guess_73 rfl rfl ?_
          refine bw_iload_n (i := 2) dX12_guess_74 rfl rfl ?_
          refine bw_iconst (v := 3) dX12_guess_75 (by decide) ?_
          refine bw_irem dX12_guess_76 (by decide) ?_
          refine bw_cSb (As := [.int v2, .int (a1 - a1 / 3 * 3)]) (st := []) (Q' := (fun v w1 => (decide (((v2 >>> ((a1 - a1 / 3 * 3) &&& 31)) &&& 1) = 1)) = v ∧ w12 = w1)) cs_BentWordsModel_471 (fs_X12_has (d := d + 10) (a0 := v2) (a1 := (a1 - a1 / 3 * 3))  ⟨rfl, rfl⟩) rfl rfl (Nat.le_of_ble_eq_true rfl) dX12_guess_77 (fun v w1 hv => ?_)
          obtain ⟨rfl, rfl⟩ := hv
          refine bw_ifb_eq (tgt := 87) dX12_guess_80 (by decide) (fun c => ?_) (fun c => ?_)
          · replace h := h.1 (of_decide_eq_false c)
            refine bw_iconst (v := 0) dX12_guess_87 (by decide) ?_
            refine bw_istore (i := 4) (L' := [some (.ref 50), some (.int a0), some (.int a1), some (.int v2), some (.int 0)]) dX12_guess_88 (Nat.le_of_ble_eq_true rfl) rfl ?_
            refine bw_iload dX12_guess_90 rfl ?_
            refine bw_if_ne (tgt := 99) dX12_guess_92 (by decide) (fun c => absurd c (by decide)) (fun _ => ?_)
            refine bw_iconst (v := (-1)) dX12_guess_95 (by decide) ?_
            refine bw_goto (tgt := 121) dX12_guess_96 (by decide) ?_
            exact bw_ireturn dX12_guess_121 rfl rfl ⟨_, rfl, h⟩
          · replace h := h.2 (of_decide_eq_true c)
            refine bw_iconst (v := 1) dX12_guess_83 (by decide) ?_
            refine bw_goto (tgt := 88) dX12_guess_84 (by decide) ?_
            refine bw_istore (i := 4) (L' := [some (.ref 50), some (.int a0), some (.int a1), some (.int v2), some (.int 1)]) dX12_guess_88 (Nat.le_of_ble_eq_true rfl) rfl ?_
            refine bw_iload dX12_guess_90 rfl ?_
            refine bw_if_ne (tgt := 99) dX12_guess_92 (by decide) (fun _ => ?_) (fun c => absurd c (by decide))
            refine bw_iload_n (i := 2) dX12_guess_99 rfl rfl ?_
            refine bw_iconst (v := 3) dX12_guess_100 (by decide) ?_
            refine bw_icmp_ge (tgt := 113) dX12_guess_101 (by decide) (fun c => ?_) (fun c => ?_)
            · replace h := h.1 (c)
              refine bw_aload_n (i := 0) dX12_guess_113 rfl rfl ?_
              refine bw_getr (r := 75) fg_BentWordsModel_83 rfl rfl dX12_guess_114 ?_
              refine bw_iload_n (i := 2) dX12_guess_117 rfl rfl ?_
              refine bw_iconst (v := 3) dX12_guess_118 (by decide) ?_
              refine bw_isub dX12_guess_119 ?_
              obtain ⟨hi13, h⟩ := h
              refine bw_iaload rfl hi13 dX12_guess_120 ?_
              exact bw_ireturn dX12_guess_121 rfl rfl ⟨_, rfl, h⟩
            · replace h := h.2 (c)
              refine bw_aload_n (i := 0) dX12_guess_104 rfl rfl ?_
              refine bw_getr (r := 74) fg_BentWordsModel_80 rfl rfl dX12_guess_105 ?_
              refine bw_iload_n (i := 2) dX12_guess_108 rfl rfl ?_
              obtain ⟨hi14, h⟩ := h
              refine bw_iaload rfl hi14 dX12_guess_109 ?_
              refine bw_goto (tgt := 121) dX12_guess_110 (by decide) ?_
              exact bw_ireturn dX12_guess_121 rfl rfl ⟨_, rfl, h⟩
      · replace h := h.2 (c)
        refine bw_aload_n (i := 0) dX12_guess_50 rfl rfl ?_
        refine bw_geti fg_BentWordsModel_487 rfl dX12_guess_51 ?_
        refine bw_if_ne (tgt := 61) dX12_guess_54 (by decide) (fun c => ?_) (fun c => ?_)
        · replace h := h.1 (c)
          refine bw_aload_n (i := 0) dX12_guess_61 rfl rfl ?_
          refine bw_geti fg_BentWordsModel_487 rfl dX12_guess_62 ?_
          exact bw_ireturn dX12_guess_65 rfl rfl ⟨_, rfl, h⟩
        · replace h := h.2 (c)
          refine bw_iconst (v := (-1)) dX12_guess_57 (by decide) ?_
          refine bw_goto (tgt := 65) dX12_guess_58 (by decide) ?_
          exact bw_ireturn dX12_guess_65 rfl rfl ⟨_, rfl, h⟩
    · replace h := h.2 (of_decide_eq_false c)
      refine bw_iconst (v := (-1)) dX12_guess_17 (by decide) ?_
      exact bw_ireturn dX12_guess_18 rfl rfl ⟨_, rfl, h⟩
theorem wfX12_run {E : bw_E} {d : Nat} {w : bw_W} {Q : Int32 → bw_W → Prop} {a0 : Int32} {a1 : Int32}  (h : ((¬ ((¬ (a0 < 0)) ∧ (¬ (((gw_i w 50 25) - 1) < a0))) → Q (-1000000) w) ∧ ((¬ (a0 < 0)) ∧ (¬ (((gw_i w 50 25) - 1) < a0)) → ((¬ (¬ ((gw_i w 50 34) ≤ 0)) → Q (-1000000) w) ∧ ((¬ ((gw_i w 50 34) ≤ 0)) → (((¬ (a1 < 0)) ∧ (¬ (1 < a1)) → (∃ Q1 : bw_W → Prop, bw_rv E (d + 10) mX12_putAside [.ref 50] w Q1 ∧ ∀ w3, Q1 w3 →
(∃ Q4 : Int32 → bw_W → Prop, bw_ri E (d + 10) mX12_goSteps [.ref 50, .int a0, .int 0] w3 Q4 ∧ ∀ v5 w6, Q4 v5 w6 →
(∃ Q7 : Int32 → bw_W → Prop, bw_ri E (d + 10) mX12_tellableMany [.ref 50] w6 Q7 ∧ ∀ v8 w9, Q7 v8 w9 →
(∃ Q10 : bw_W → Prop, bw_rv E (d + 10) mX12_bringBack [.ref 50] w9 Q10 ∧ ∀ w12, Q10 w12 →
((¬ a1 = 1 → (vp_in a0 5) ∧
((¬ v5 = (gw_i w12 62 (a0.toNatClampNeg)) → Q v5 w12) ∧ (v5 = (gw_i w12 62 (a0.toNatClampNeg)) → Q (-1) w12))) ∧ (a1 = 1 → Q v8 w12))))))) ∧ (¬ ((¬ (a1 < 0)) ∧ (¬ (1 < a1))) → Q (-1000000) w))))))) : bw_ri E (d + 11) mX12_run [.ref 50, .int a0, .int a1] w Q := by
  refine bw_enter rfl (Nat.le_of_ble_eq_true rfl) ?_
  refine bw_aload_n (i := 0) dX12_run_0 rfl rfl ?_
  refine bw_iload_n (i := 1) dX12_run_1 rfl rfl ?_
  refine bw_cVb (As := [.int a0]) (st := []) (Q' := (fun v w1 => (decide ((¬ (a0 < 0)) ∧ (¬ (((gw_i w 50 25) - 1) < a0)))) = v ∧ w = w1)) cv_BentWordsModel_493 rfl rfl (fs_X12_isScript (d := d + 9) (a0 := a0)  ⟨rfl, rfl⟩) rfl rfl (Nat.le_of_ble_eq_true rfl) dX12_run_2 (fun v w1 hv => ?_)
  obtain ⟨rfl, rfl⟩ := hv
  refine bw_ifb_eq (tgt := 24) dX12_run_5 (by decide) (fun c => ?_) (fun c => ?_)
  · replace h := h.1 (of_decide_eq_false c)
    refine bw_ldcw ki_BentWordsModel_259 dX12_run_24 ?_
    exact bw_ireturn dX12_run_27 rfl rfl ⟨_, rfl, h⟩
  · replace h := h.2 (of_decide_eq_true c)
    refine bw_aload_n (i := 0) dX12_run_8 rfl rfl ?_
    refine bw_cVb (As := []) (st := []) (Q' := (fun v w1 => (decide (¬ ((gw_i w 50 34) ≤ 0))) = v ∧ w = w1)) cv_BentWordsModel_272 rfl rfl (fs_X12_isLexicon (d := d + 10)   ⟨rfl, rfl⟩) rfl rfl (Nat.le_of_ble_eq_true rfl) dX12_run_9 (fun v w1 hv => ?_)
    obtain ⟨rfl, rfl⟩ := hv
    refine bw_ifb_eq (tgt := 24) dX12_run_12 (by decide) (fun c => ?_) (fun c => ?_)
    · replace h := h.1 (of_decide_eq_false c)
      refine bw_ldcw ki_BentWordsModel_259 dX12_run_24 ?_
      exact bw_ireturn dX12_run_27 rfl rfl ⟨_, rfl, h⟩
    · replace h := h.2 (of_decide_eq_true c)
      refine bw_iload_n (i := 2) dX12_run_15 rfl rfl ?_
      refine bw_iconst (v := 0) dX12_run_16 (by decide) ?_
      refine bw_iconst (v := 1) dX12_run_17 (by decide) ?_
      refine bw_cSb (As := [.int a1, .int 0, .int 1]) (st := []) (Q' := (fun v w1 => (decide ((¬ (a1 < 0)) ∧ (¬ (1 < a1)))) = v ∧ w = w1)) cs_BentWordsModel_100 (fs_X12_in (d := d + 10) (a0 := a1) (a1 := 0) (a2 := 1)  ⟨rfl, rfl⟩) rfl rfl (Nat.le_of_ble_eq_true rfl) dX12_run_18 (fun v w1 hv => ?_)
      obtain ⟨rfl, rfl⟩ := hv
      refine bw_ifb_ne (tgt := 28) dX12_run_21 (by decide) (fun c => ?_) (fun c => ?_)
      · replace h := h.1 (of_decide_eq_true c)
        refine bw_aload_n (i := 0) dX12_run_28 rfl rfl ?_
        obtain ⟨Q1, hr, h⟩ := h
        refine bw_cVv (As := []) (st := []) cv_BentWordsModel_478 rfl rfl hr rfl rfl (Nat.le_of_ble_eq_true rfl) dX12_run_29 (fun w3 hv => ?_)
        replace h := h w3 hv
        clear hr
        refine bw_aload_n (i := 0) dX12_run_32 rfl rfl ?_
        refine bw_iload_n (i := 1) dX12_run_33 rfl rfl ?_
        refine bw_iconst (v := 0) dX12_run_34 (by decide) ?_
        obtain ⟨Q4, hr, h⟩ := h
        refine bw_cVi (As := [.int a0, .int 0]) (st := []) cv_BentWordsModel_496 rfl rfl hr rfl rfl (Nat.le_of_ble_eq_true rfl) dX12_run_35 (fun v5 w6 hv => ?_)
        replace h := h v5 w6 hv
        clear hr
        refine bw_istore_n (i := 3) (L' := [some (.ref 50), some (.int a0), some (.int a1), some (.int v5), none]) dX12_run_38 rfl (Nat.le_of_ble_eq_true rfl) rfl ?_
        refine bw_aload_n (i := 0) dX12_run_39 rfl rfl ?_
        obtain ⟨Q7, hr, h⟩ := h
        refine bw_cVi (As := []) (st := []) cv_BentWordsModel_392 rfl rfl hr rfl rfl (Nat.le_of_ble_eq_true rfl) dX12_run_40 (fun v8 w9 hv => ?_)
        replace h := h v8 w9 hv
        clear hr
        refine bw_istore (i := 4) (L' := [some (.ref 50), some (.int a0), some (.int a1), some (.int v5), some (.int v8)]) dX12_run_43 (Nat.le_of_ble_eq_true rfl) rfl ?_
        refine bw_aload_n (i := 0) dX12_run_45 rfl rfl ?_
        obtain ⟨Q10, hr, h⟩ := h
        refine bw_cVv (As := []) (st := []) cv_BentWordsModel_481 rfl rfl hr rfl rfl (Nat.le_of_ble_eq_true rfl) dX12_run_46 (fun w12 hv => ?_)
        replace h := h w12 hv
        clear hr
        refine bw_iload_n (i := 2) dX12_run_49 rfl rfl ?_
        refine bw_iconst (v := 1) dX12_run_50 (by decide) ?_
        refine bw_icmp_ne (tgt := 59) dX12_run_51 (by decide) (fun c => ?_) (fun c => ?_)
        · replace h := h.1 (c)
          refine bw_iload_n (i := 3) dX12_run_59 rfl rfl ?_
          refine bw_aload_n (i := 0) dX12_run_60 rfl rfl ?_
          refine bw_getr (r := 62) fg_BentWordsModel_44 rfl rfl dX12_run_61 ?_
          refine bw_iload_n (i := 1) dX12_run_64 rfl rfl ?_
          obtain ⟨hi13, h⟩ := h
          refine bw_iaload rfl hi13 dX12_run_65 ?_
          refine bw_icmp_ne (tgt := 73) dX12_run_66 (by decide) (fun c => ?_) (fun c => ?_)
          · replace h := h.1 (c)
            refine bw_iload_n (i := 3) dX12_run_73 rfl rfl ?_
            exact bw_ireturn dX12_run_74 rfl rfl ⟨_, rfl, h⟩
          · replace h := h.2 (c)
            refine bw_iconst (v := (-1)) dX12_run_69 (by decide) ?_
            refine bw_goto (tgt := 74) dX12_run_70 (by decide) ?_
            exact bw_ireturn dX12_run_74 rfl rfl ⟨_, rfl, h⟩
        · replace h := h.2 (c)
          refine bw_iload dX12_run_54 rfl ?_
          refine bw_goto (tgt := 74) dX12_run_56 (by decide) ?_
          exact bw_ireturn dX12_run_74 rfl rfl ⟨_, rfl, h⟩
      · replace h := h.2 (of_decide_eq_false c)
        refine bw_ldcw ki_BentWordsModel_259 dX12_run_24 ?_
        exact bw_ireturn dX12_run_27 rfl rfl ⟨_, rfl, h⟩
theorem wfX12_perform {E : bw_E} {d : Nat} {w : bw_W} {Q : Int32 → bw_W → Prop} {a0 : Int32}  (h : ((¬ ((¬ (a0 < 0)) ∧ (¬ (((gw_i w 50 25) - 1) < a0))) → Q (-1) w) ∧ ((¬ (a0 < 0)) ∧ (¬ (((gw_i w 50 25) - 1) < a0)) → ((¬ (¬ ((gw_i w 50 34) ≤ 0)) → Q (-1) w) ∧ ((¬ ((gw_i w 50 34) ≤ 0)) → (∃ Q1 : Int32 → bw_W → Prop, bw_ri E (d + 10) mX12_goSteps [.ref 50, .int a0, .int 1] w Q1 ∧ ∀ v2 w3, Q1 v2 w3 →
Q v2 w3)))))) : bw_ri E (d + 11) mX12_perform [.ref 50, .int a0] w Q := by
  refine bw_enter rfl (Nat.le_of_ble_eq_true rfl) ?_
  refine bw_aload_n (i := 0) dX12_perform_0 rfl rfl ?_
  refine bw_iload_n (i := 1) dX12_perform_1 rfl rfl ?_
  refine bw_cVb (As := [.int a0]) (st := []) (Q' := (fun v w1 => (decide ((¬ (a0 < 0)) ∧ (¬ (((gw_i w 50 25) - 1) < a0)))) = v ∧ w = w1)) cv_BentWordsModel_493 rfl rfl (fs_X12_isScript (d := d + 9) (a0 := a0)  ⟨rfl, rfl⟩) rfl rfl (Nat.le_of_ble_eq_true rfl) dX12_perform_2 (fun v w1 hv => ?_)
  obtain ⟨rfl, rfl⟩ := hv
  refine bw_ifb_eq (tgt := 24) dX12_perform_5 (by decide) (fun c => ?_) (fun c => ?_)
  · replace h := h.1 (of_decide_eq_false c)
    refine bw_iconst (v := (-1)) dX12_perform_24 (by decide) ?_
    exact bw_ireturn dX12_perform_25 rfl rfl ⟨_, rfl, h⟩
  · replace h := h.2 (of_decide_eq_true c)
    refine bw_aload_n (i := 0) dX12_perform_8 rfl rfl ?_
    refine bw_cVb (As := []) (st := []) (Q' := (fun v w1 => (decide (¬ ((gw_i w 50 34) ≤ 0))) = v ∧ w = w1)) cv_BentWordsModel_272 rfl rfl (fs_X12_isLexicon (d := d + 10)   ⟨rfl, rfl⟩) rfl rfl (Nat.le_of_ble_eq_true rfl) dX12_perform_9 (fun v w1 hv => ?_)
    obtain ⟨rfl, rfl⟩ := hv
    refine bw_ifb_eq (tgt := 24) dX12_perform_12 (by decide) (fun c => ?_) (fun c => ?_)
    · replace h := h.1 (of_decide_eq_false c)
      refine bw_iconst (v := (-1)) dX12_perform_24 (by decide) ?_
      exact bw_ireturn dX12_perform_25 rfl rfl ⟨_, rfl, h⟩
    · replace h := h.2 (of_decide_eq_true c)
      refine bw_aload_n (i := 0) dX12_perform_15 rfl rfl ?_
      refine bw_iload_n (i := 1) dX12_perform_16 rfl rfl ?_
      refine bw_iconst (v := 1) dX12_perform_17 (by decide) ?_
      obtain ⟨Q1, hr, h⟩ := h
      refine bw_cVi (As := [.int a0, .int 1]) (st := []) cv_BentWordsModel_496 rfl rfl hr rfl rfl (Nat.le_of_ble_eq_true rfl) dX12_perform_18 (fun v2 w3 hv => ?_)
      replace h := h v2 w3 hv
      clear hr
      refine bw_goto (tgt := 25) dX12_perform_21 (by decide) ?_
      exact bw_ireturn dX12_perform_25 rfl rfl ⟨_, rfl, h⟩
theorem wfX12_drawWay {E : bw_E} {d : Nat} {w : bw_W} {Q : bw_W → Prop}   (h : (((¬ ((8 : Int32).toInt64) = 0))) ∧
((4 ≤ (vX12_draw w (8 : Int32)) → ((¬ (vX12_draw w (8 : Int32)) = 4 → ((¬ (vX12_draw w (8 : Int32)) = 5 → ((¬ (vX12_draw w (8 : Int32)) = 6 → (∃ Q2 : bw_W → Prop, bw_rv E (d + 11) mX12_drawsForm [.ref 50, .int 0] (sw_l w 50 43 (((gw_l w 50 43) * 6364136223846793005) + 1442695040888963407)) Q2 ∧ ∀ w4, Q2 w4 →
Q w4)) ∧ ((vX12_draw w (8 : Int32)) = 6 → (∃ Q5 : bw_W → Prop, bw_rv E (d + 11) mX12_drawsForm [.ref 50, .int 1] (sw_l w 50 43 (((gw_l w 50 43) * 6364136223846793005) + 1442695040888963407)) Q5 ∧ ∀ w7, Q5 w7 →
Q w7)))) ∧ ((vX12_draw w (8 : Int32)) = 5 → (((¬ ((2 : Int32).toInt64) = 0))) ∧
(∃ Q9 : bw_W → Prop, bw_rv E (d + 11) mX12_tryOne [.ref 50, .int 2, .int (vX12_draw (sw_l w 50 43 (((gw_l w 50 43) * 6364136223846793005) + 1442695040888963407)) (2 : Int32)), .int 0, .int 0, .long 0] (sw_l (sw_l w 50 43 (((gw_l w 50 43) * 6364136223846793005) + 1442695040888963407)) 50 43 (((gw_l (sw_l w 50 43 (((gw_l w 50 43) * 6364136223846793005) + 1442695040888963407)) 50 43) * 6364136223846793005) + 1442695040888963407)) Q9 ∧ ∀ w11, Q9 w11 →
Q w11)))) ∧ ((vX12_draw w (8 : Int32)) = 4 → (((¬ ((3 : Int32).toInt64) = 0))) ∧
(∃ Q13 : bw_W → Prop, bw_rv E (d + 11) mX12_tryOne [.ref 50, .int 1, .int (vX12_draw (sw_l w 50 43 (((gw_l w 50 43) * 6364136223846793005) + 1442695040888963407)) (3 : Int32)), .int 0, .int 0, .long 0] (sw_l (sw_l w 50 43 (((gw_l w 50 43) * 6364136223846793005) + 1442695040888963407)) 50 43 (((gw_l (sw_l w 50 43 (((gw_l w 50 43) * 6364136223846793005) + 1442695040888963407)) 50 43) * 6364136223846793005) + 1442695040888963407)) Q13 ∧ ∀ w15, Q13 w15 →
Q w15)))) ∧ (¬ (4 ≤ (vX12_draw w (8 : Int32))) → (((¬ ((3 : Int32).toInt64) = 0))) ∧
(((¬ ((gw_i w 50 34).toInt64) = 0))) ∧
(((¬ ((4 : Int32).toInt64) = 0))) ∧
(∃ Q19 : bw_W → Prop, bw_rv E (d + 11) mX12_tryOne [.ref 50, .int 0, .int (vX12_draw (sw_l w 50 43 (((gw_l w 50 43) * 6364136223846793005) + 1442695040888963407)) (3 : Int32)), .int (vX12_draw (sw_l (sw_l w 50 43 (((gw_l w 50 43) * 6364136223846793005) + 1442695040888963407)) 50 43 (((gw_l (sw_l w 50 43 (((gw_l w 50 43) * 6364136223846793005) + 1442695040888963407)) 50 43) * 6364136223846793005) + 1442695040888963407)) (gw_i w 50 34)), .int (vX12_draw (sw_l (sw_l (sw_l w 50 43 (((gw_l w 50 43) * 6364136223846793005) + 1442695040888963407)) 50 43 (((gw_l (sw_l w 50 43 (((gw_l w 50 43) * 6364136223846793005) + 1442695040888963407)) 50 43) * 6364136223846793005) + 1442695040888963407)) 50 43 (((gw_l (sw_l (sw_l w 50 43 (((gw_l w 50 43) * 6364136223846793005) + 1442695040888963407)) 50 43 (((gw_l (sw_l w 50 43 (((gw_l w 50 43) * 6364136223846793005) + 1442695040888963407)) 50 43) * 6364136223846793005) + 1442695040888963407)) 50 43) * 6364136223846793005) + 1442695040888963407)) (4 : Int32)), .long 0] (sw_l (sw_l (sw_l (sw_l w 50 43 (((gw_l w 50 43) * 6364136223846793005) + 1442695040888963407)) 50 43 (((gw_l (sw_l w 50 43 (((gw_l w 50 43) * 6364136223846793005) + 1442695040888963407)) 50 43) * 6364136223846793005) + 1442695040888963407)) 50 43 (((gw_l (sw_l (sw_l w 50 43 (((gw_l w 50 43) * 6364136223846793005) + 1442695040888963407)) 50 43 (((gw_l (sw_l w 50 43 (((gw_l w 50 43) * 6364136223846793005) + 1442695040888963407)) 50 43) * 6364136223846793005) + 1442695040888963407)) 50 43) * 6364136223846793005) + 1442695040888963407)) 50 43 (((gw_l (sw_l (sw_l (sw_l w 50 43 (((gw_l w 50 43) * 6364136223846793005) + 1442695040888963407)) 50 43 (((gw_l (sw_l w 50 43 (((gw_l w 50 43) * 6364136223846793005) + 1442695040888963407)) 50 43) * 6364136223846793005) + 1442695040888963407)) 50 43 (((gw_l (sw_l (sw_l w 50 43 (((gw_l w 50 43) * 6364136223846793005) + 1442695040888963407)) 50 43 (((gw_l (sw_l w 50 43 (((gw_l w 50 43) * 6364136223846793005) + 1442695040888963407)) 50 43) * 6364136223846793005) + 1442695040888963407)) 50 43) * 6364136223846793005) + 1442695040888963407)) 50 43) * 6364136223846793005) + 1442695040888963407)) Q19 ∧ ∀ w21, Q19 w21 →
Q w21)))) : bw_rv E (d + 12) mX12_drawWay [.ref 50] w Q := by
  refine bw_enter rfl (Nat.le_of_ble_eq_true rfl) ?_
  refine bw_aload_n (i := 0) dX12_drawWay_0 rfl rfl ?_
  refine bw_bipush (v := 8) dX12_drawWay_1 (by decide) ?_
  obtain ⟨hc1, h⟩ := h
  refine bw_cVi (As := [.int 8]) (st := []) (Q' := (fun v w1 => (vX12_draw w (8 : Int32)) = v ∧ (sw_l w 50 43 (((gw_l w 50 43) * 6364136223846793005) + 1442695040888963407)) = w1)) cv_BentWordsModel_430 rfl rfl (fs_X12_draw (d := d + 11) (a0 := (8 : Int32)) hc1 ⟨rfl, rfl⟩) rfl rfl (Nat.le_of_ble_eq_true rfl) dX12_drawWay_3 (fun v w1 hv => ?_)
  obtain ⟨rfl, rfl⟩ := hv
  refine bw_istore_n (i := 1) (L' := [some (.ref 50), some (.int (vX12_draw w (8 : Int32))), none, none]) dX12_drawWay_6 rfl (Nat.le_of_ble_eq_true rfl) rfl ?_
  refine bw_iload_n (i := 1) dX12_drawWay_7 rfl rfl ?_
  refine bw_iconst (v := 4) dX12_drawWay_8 (by decide) ?_
  refine bw_icmp_ge (tgt := 43) dX12_drawWay_9 (by decide) (fun c => ?_) (fun c => ?_)
  · replace h := h.1 (c)
    refine bw_iload_n (i := 1) dX12_drawWay_43 rfl rfl ?_
    refine bw_iconst (v := 4) dX12_drawWay_44 (by decide) ?_
    refine bw_icmp_ne (tgt := 64) dX12_drawWay_45 (by decide) (fun c => ?_) (fun c => ?_)
    · replace h := h.1 (c)
      refine bw_iload_n (i := 1) dX12_drawWay_64 rfl rfl ?_
      refine bw_iconst (v := 5) dX12_drawWay_65 (by decide) ?_
      refine bw_icmp_ne (tgt := 85) dX12_drawWay_66 (by decide) (fun c => ?_) (fun c => ?_)
      · replace h := h.1 (c)
        refine bw_aload_n (i := 0) dX12_drawWay_85 rfl rfl ?_
        refine bw_iload_n (i := 1) dX12_drawWay_86 rfl rfl ?_
        refine bw_bipush (v := 6) dX12_drawWay_87 (by decide) ?_
        refine bw_icmp_ne (tgt := 96) dX12_drawWay_89 (by decide) (fun c => ?_) (fun c => ?_)
        · replace h := h.1 (c)
          refine bw_iconst (v := 0) dX12_drawWay_96 (by decide) ?_
          obtain ⟨Q2, hr, h⟩ := h
          refine bw_cVv (As := [.int 0]) (st := []) cv_BentWordsModel_437 rfl rfl hr rfl rfl (Nat.le_of_ble_eq_true rfl) dX12_drawWay_97 (fun w4 hv => ?_)
          replace h := h w4 hv
          clear hr
          exact bw_return dX12_drawWay_100 rfl ⟨rfl, h⟩
        · replace h := h.2 (c)
          refine bw_iconst (v := 1) dX12_drawWay_92 (by decide) ?_
          refine bw_goto (tgt := 97) dX12_drawWay_93 (by decide) ?_
          obtain ⟨Q5, hr, h⟩ := h
          refine bw_cVv (As := [.int 1]) (st := []) cv_BentWordsModel_437 rfl rfl hr rfl rfl (Nat.le_of_ble_eq_true rfl) dX12_drawWay_97 (fun w7 hv => ?_)
          replace h := h w7 hv
          clear hr
          exact bw_return dX12_drawWay_100 rfl ⟨rfl, h⟩
      · replace h := h.2 (c)
        refine bw_aload_n (i := 0) dX12_drawWay_69 rfl rfl ?_
        refine bw_iconst (v := 2) dX12_drawWay_70 (by decide) ?_
        refine bw_aload_n (i := 0) dX12_drawWay_71 rfl rfl ?_
        refine bw_iconst (v := 2) dX12_drawWay_72 (by decide) ?_
        obtain ⟨hc8, h⟩ := h
        refine bw_cVi (As := [.int 2]) (st := [.int 2, .ref 50]) (Q' := (fun v w1 => (vX12_draw (sw_l w 50 43 (((gw_l w 50 43) * 6364136223846793005) + 1442695040888963407)) (2 : Int32)) = v ∧ (sw_l (sw_l w 50 43 (((gw_l w 50 43) * 6364136223846793005) + 1442695040888963407)) 50 43 (((gw_l (sw_l w 50 43 (((gw_l w 50 43) * 6364136223846793005) + 1442695040888963407)) 50 43) * 6364136223846793005) + 1442695040888963407)) = w1)) cv_BentWordsModel_430 rfl rfl (fs_X12_draw (d := d + 11) (a0 := (2 : Int32)) hc8 ⟨rfl, rfl⟩) rfl rfl (Nat.le_of_ble_eq_true rfl) dX12_drawWay_73 (fun v w1 hv => ?_)
        obtain ⟨rfl, rfl⟩ := hv
        refine bw_iconst (v := 0) dX12_drawWay_76 (by decide) ?_
        refine bw_iconst (v := 0) dX12_drawWay_77 (by decide) ?_
        refine bw_lconst (v := 0) dX12_drawWay_78 rfl ?_
        obtain ⟨Q9, hr, h⟩ := h
        refine bw_cVv (As := [.int 2, .int (vX12_draw (sw_l w 50 43 (((gw_l w 50 43) * 6364136223846793005) + 1442695040888963407)) (2 : Int32)), .int 0, .int 0, .long 0]) (st := []) cv_BentWordsModel_433 rfl rfl hr rfl rfl (Nat.le_of_ble_eq_true rfl) dX12_drawWay_79 (fun w11 hv => ?_)
        replace h := h w11 hv
        clear hr
        refine bw_goto (tgt := 100) dX12_drawWay_82 (by decide) ?_
        exact bw_return dX12_drawWay_100 rfl ⟨rfl, h⟩
    · replace h := h.2 (c)
      refine bw_aload_n (i := 0) dX12_drawWay_48 rfl rfl ?_
      refine bw_iconst (v := 1) dX12_drawWay_49 (by decide) ?_
      refine bw_aload_n (i := 0) dX12_drawWay_50 rfl rfl ?_
      refine bw_iconst (v := 3) dX12_drawWay_51 (by decide) ?_
      obtain ⟨hc12, h⟩ := h
      refine bw_cVi (As := [.int 3]) (st := [.int 1, .ref 50]) (Q' := (fun v w1 => (vX12_draw (sw_l w 50 43 (((gw_l w 50 43) * 6364136223846793005) + 1442695040888963407)) (3 : Int32)) = v ∧ (sw_l (sw_l w 50 43 (((gw_l w 50 43) * 6364136223846793005) + 1442695040888963407)) 50 43 (((gw_l (sw_l w 50 43 (((gw_l w 50 43) * 6364136223846793005) + 1442695040888963407)) 50 43) * 6364136223846793005) + 1442695040888963407)) = w1)) cv_BentWordsModel_430 rfl rfl (fs_X12_draw (d := d + 11) (a0 := (3 : Int32)) hc12 ⟨rfl, rfl⟩) rfl rfl (Nat.le_of_ble_eq_true rfl) dX12_drawWay_52 (fun v w1 hv => ?_)
      obtain ⟨rfl, rfl⟩ := hv
      refine bw_iconst (v := 0) dX12_drawWay_55 (by decide) ?_
      refine bw_iconst (v := 0) dX12_drawWay_56 (by decide) ?_
      refine bw_lconst (v := 0) dX12_drawWay_57 rfl ?_
      obtain ⟨Q13, hr, h⟩ := h
      refine bw_cVv (As := [.int 1, .int (vX12_draw (sw_l w 50 43 (((gw_l w 50 43) * 6364136223846793005) + 1442695040888963407)) (3 : Int32)), .int 0, .int 0, .long 0]) (st := []) cv_BentWordsModel_433 rfl rfl hr rfl rfl (Nat.le_of_ble_eq_true rfl) dX12_drawWay_58 (fun w15 hv => ?_)
      replace h := h w15 hv
      clear hr
      refine bw_goto (tgt := 100) dX12_drawWay_61 (by decide) ?_
      exact bw_return dX12_drawWay_100 rfl ⟨rfl, h⟩
  · replace h := h.2 (c)
    refine bw_aload_n (i := 0) dX12_drawWay_12 rfl rfl ?_
    refine bw_iconst (v := 3) dX12_drawWay_13 (by decide) ?_
    obtain ⟨hc16, h⟩ := h
    refine bw_cVi (As := [.int 3]) (st := []) (Q' := (fun v w1 => (vX12_draw (sw_l w 50 43 (((gw_l w 50 43) * 6364136223846793005) + 1442695040888963407)) (3 : Int32)) = v ∧ (sw_l (sw_l w 50 43 (((gw_l w 50 43) * 6364136223846793005) + 1442695040888963407)) 50 43 (((gw_l (sw_l w 50 43 (((gw_l w 50 43) * 6364136223846793005) + 1442695040888963407)) 50 43) * 6364136223846793005) + 1442695040888963407)) = w1)) cv_BentWordsModel_430 rfl rfl (fs_X12_draw (d := d + 11) (a0 := (3 : Int32)) hc16 ⟨rfl, rfl⟩) rfl rfl (Nat.le_of_ble_eq_true rfl) dX12_drawWay_14 (fun v w1 hv => ?_)
    obtain ⟨rfl, rfl⟩ := hv
    refine bw_istore_n (i := 2) (L' := [some (.ref 50), some (.int (vX12_draw w (8 : Int32))), some (.int (vX12_draw (sw_l w 50 43 (((gw_l w 50 43) * 6364136223846793005) + 1442695040888963407)) (3 : Int32))), none]) dX12_drawWay_17 rfl (Nat.le_of_ble_eq_true rfl) rfl ?_
    refine bw_aload_n (i := 0) dX12_drawWay_18 rfl rfl ?_
    refine bw_aload_n (i := 0) dX12_drawWay_19 rfl rfl ?_
    refine bw_geti fg_BentWordsModel_269 rfl dX12_drawWay_20 ?_
    rw [show gw_i (sw_l (sw_l w 50 43 (((gw_l w 50 43) * 6364136223846793005) + 1442695040888963407)) 50 43 (((gw_l (sw_l w 50 43 (((gw_l w 50 43) * 6364136223846793005) + 1442695040888963407)) 50 43) * 6364136223846793005) + 1442695040888963407)) 50 34 = (gw_i w 50 34) from rfl]
    obtain ⟨hc17, h⟩ := h
    refine bw_cVi (As := [.int (gw_i w 50 34)]) (st := []) (Q' := (fun v w1 => (vX12_draw (sw_l (sw_l w 50 43 (((gw_l w 50 43) * 6364136223846793005) + 1442695040888963407)) 50 43 (((gw_l (sw_l w 50 43 (((gw_l w 50 43) * 6364136223846793005) + 1442695040888963407)) 50 43) * 6364136223846793005) + 1442695040888963407)) (gw_i w 50 34)) = v ∧ (sw_l (sw_l (sw_l w 50 43 (((gw_l w 50 43) * 6364136223846793005) + 1442695040888963407)) 50 43 (((gw_l (sw_l w 50 43 (((gw_l w 50 43) * 6364136223846793005) + 1442695040888963407)) 50 43) * 6364136223846793005) + 1442695040888963407)) 50 43 (((gw_l (sw_l (sw_l w 50 43 (((gw_l w 50 43) * 6364136223846793005) + 1442695040888963407)) 50 43 (((gw_l (sw_l w 50 43 (((gw_l w 50 43) * 6364136223846793005) + 1442695040888963407)) 50 43) * 6364136223846793005) + 1442695040888963407)) 50 43) * 6364136223846793005) + 1442695040888963407)) = w1)) cv_BentWordsModel_430 rfl rfl (fs_X12_draw (d := d + 11) (a0 := (gw_i w 50 34)) hc17 ⟨rfl, rfl⟩) rfl rfl (Nat.le_of_ble_eq_true rfl) dX12_drawWay_23 (fun v w1 hv => ?_)
    obtain ⟨rfl, rfl⟩ := hv
    refine bw_istore_n (i := 3) (L' := [some (.ref 50), some (.int (vX12_draw w (8 : Int32))), some (.int (vX12_draw (sw_l w 50 43 (((gw_l w 50 43) * 6364136223846793005) + 1442695040888963407)) (3 : Int32))), some (.int (vX12_draw (sw_l (sw_l w 50 43 (((gw_l w 50 43) * 6364136223846793005) + 1442695040888963407)) 50 43 (((gw_l (sw_l w 50 43 (((gw_l w 50 43) * 6364136223846793005) + 1442695040888963407)) 50 43) * 6364136223846793005) + 1442695040888963407)) (gw_i w 50 34)))]) dX12_drawWay_26 rfl (Nat.le_of_ble_eq_true rfl) rfl ?_
    refine bw_aload_n (i := 0) dX12_drawWay_27 rfl rfl ?_
    refine bw_iconst (v := 0) dX12_drawWay_28 (by decide) ?_
    refine bw_iload_n (i := 2) dX12_drawWay_29 rfl rfl ?_
    refine bw_iload_n (i := 3) dX12_drawWay_30 rfl rfl ?_
    refine bw_aload_n (i := 0) dX12_drawWay_31 rfl rfl ?_
    refine bw_iconst (v := 4) dX12_drawWay_32 (by decide) ?_
    obtain ⟨hc18, h⟩ := h
    refine bw_cVi (As := [.int 4]) (st := [.int (vX12_draw (sw_l (sw_l w 50 43 (((gw_l w 50 43) * 6364136223846793005) + 1442695040888963407)) 50 43 (((gw_l (sw_l w 50 43 (((gw_l w 50 43) * 6364136223846793005) + 1442695040888963407)) 50 43) * 6364136223846793005) + 1442695040888963407)) (gw_i w 50 34)), .int (vX12_draw (sw_l w 50 43 (((gw_l w 50 43) * 6364136223846793005) + 1442695040888963407)) (3 : Int32)), .int 0, .ref 50]) (Q' := (fun v w1 => (vX12_draw (sw_l (sw_l (sw_l w 50 43 (((gw_l w 50 43) * 6364136223846793005) + 1442695040888963407)) 50 43 (((gw_l (sw_l w 50 43 (((gw_l w 50 43) * 6364136223846793005) + 1442695040888963407)) 50 43) * 6364136223846793005) + 1442695040888963407)) 50 43 (((gw_l (sw_l (sw_l w 50 43 (((gw_l w 50 43) * 6364136223846793005) + 1442695040888963407)) 50 43 (((gw_l (sw_l w 50 43 (((gw_l w 50 43) * 6364136223846793005) + 1442695040888963407)) 50 43) * 6364136223846793005) + 1442695040888963407)) 50 43) * 6364136223846793005) + 1442695040888963407)) (4 : Int32)) = v ∧ (sw_l (sw_l (sw_l (sw_l w 50 43 (((gw_l w 50 43) * 6364136223846793005) + 1442695040888963407)) 50 43 (((gw_l (sw_l w 50 43 (((gw_l w 50 43) * 6364136223846793005) + 1442695040888963407)) 50 43) * 6364136223846793005) + 1442695040888963407)) 50 43 (((gw_l (sw_l (sw_l w 50 43 (((gw_l w 50 43) * 6364136223846793005) + 1442695040888963407)) 50 43 (((gw_l (sw_l w 50 43 (((gw_l w 50 43) * 6364136223846793005) + 1442695040888963407)) 50 43) * 6364136223846793005) + 1442695040888963407)) 50 43) * 6364136223846793005) + 1442695040888963407)) 50 43 (((gw_l (sw_l (sw_l (sw_l w 50 43 (((gw_l w 50 43) * 6364136223846793005) + 1442695040888963407)) 50 43 (((gw_l (sw_l w 50 43 (((gw_l w 50 43) * 6364136223846793005) + 1442695040888963407)) 50 43) * 6364136223846793005) + 1442695040888963407)) 50 43 (((gw_l (sw_l (sw_l w 50 43 (((gw_l w 50 43) * 6364136223846793005) + 1442695040888963407)) 50 43 (((gw_l (sw_l w 50 43 (((gw_l w 50 43) * 6364136223846793005) + 1442695040888963407)) 50 43) * 6364136223846793005) + 1442695040888963407)) 50 43) * 6364136223846793005) + 1442695040888963407)) 50 43) * 6364136223846793005) + 1442695040888963407)) = w1)) cv_BentWordsModel_430 rfl rfl (fs_X12_draw (d := d + 11) (a0 := (4 : Int32)) hc18 ⟨rfl, rfl⟩) rfl rfl (Nat.le_of_ble_eq_true rfl) dX12_drawWay_33 (fun v w1 hv => ?_)
    obtain ⟨rfl, rfl⟩ := hv
    refine bw_lconst (v := 0) dX12_drawWay_36 rfl ?_
    obtain ⟨Q19, hr, h⟩ := h
    refine bw_cVv (As := [.int 0, .int (vX12_draw (sw_l w 50 43 (((gw_l w 50 43) * 6364136223846793005) + 1442695040888963407)) (3 : Int32)), .int (vX12_draw (sw_l (sw_l w 50 43 (((gw_l w 50 43) * 6364136223846793005) + 1442695040888963407)) 50 43 (((gw_l (sw_l w 50 43 (((gw_l w 50 43) * 6364136223846793005) + 1442695040888963407)) 50 43) * 6364136223846793005) + 1442695040888963407)) (gw_i w 50 34)), .int (vX12_draw (sw_l (sw_l (sw_l w 50 43 (((gw_l w 50 43) * 6364136223846793005) + 1442695040888963407)) 50 43 (((gw_l (sw_l w 50 43 (((gw_l w 50 43) * 6364136223846793005) + 1442695040888963407)) 50 43) * 6364136223846793005) + 1442695040888963407)) 50 43 (((gw_l (sw_l (sw_l w 50 43 (((gw_l w 50 43) * 6364136223846793005) + 1442695040888963407)) 50 43 (((gw_l (sw_l w 50 43 (((gw_l w 50 43) * 6364136223846793005) + 1442695040888963407)) 50 43) * 6364136223846793005) + 1442695040888963407)) 50 43) * 6364136223846793005) + 1442695040888963407)) (4 : Int32)), .long 0]) (st := []) cv_BentWordsModel_433 rfl rfl hr rfl rfl (Nat.le_of_ble_eq_true rfl) dX12_drawWay_37 (fun w21 hv => ?_)
    replace h := h w21 hv
    clear hr
    refine bw_goto (tgt := 100) dX12_drawWay_40 (by decide) ?_
    exact bw_return dX12_drawWay_100 rfl ⟨rfl, h⟩
theorem wfX12_ways_27 {E : bw_E} {d : Nat} {w : bw_W} {Q : Int32 → bw_W → Prop} {l1 : Int32} {l2 : Int64} {l4 : Int32}  (h : ((l1 ≤ l4 → (∃ Q1 : Int32 → bw_W → Prop, bw_ri E (d + 12) mX12_tellableMany [.ref 50] w Q1 ∧ ∀ v2 w3, Q1 v2 w3 →
Q v2 w3)) ∧ (¬ (l1 ≤ l4) → (∃ Q4 : bw_W → Prop, bw_rv E (d + 12) mX12_drawWay [.ref 50] w Q4 ∧ ∀ w6, Q4 w6 →
bw_G E (d + 13) mX12_ways 27 [some (.ref 50), some (.int l1), some (.long l2), none, some (.int (l4 + 1))] [] w6 (bw_qi Q))))) : bw_G E (d + 13) mX12_ways 27 [some (.ref 50), some (.int l1), some (.long l2), none, some (.int l4)] [] w (bw_qi Q) := by
  refine bw_iload dX12_ways_27 rfl ?_
  refine bw_iload_n (i := 1) dX12_ways_29 rfl rfl ?_
  refine bw_icmp_ge (tgt := 43) dX12_ways_30 (by decide) (fun c => ?_) (fun c => ?_)
  · replace h := h.1 (c)
    refine bw_aload_n (i := 0) dX12_ways_43 rfl rfl ?_
    obtain ⟨Q1, hr, h⟩ := h
    refine bw_cVi (As := []) (st := []) cv_BentWordsModel_392 rfl rfl hr rfl rfl (Nat.le_of_ble_eq_true rfl) dX12_ways_44 (fun v2 w3 hv => ?_)
    replace h := h v2 w3 hv
    clear hr
    exact bw_ireturn dX12_ways_47 rfl rfl ⟨_, rfl, h⟩
  · replace h := h.2 (c)
    refine bw_aload_n (i := 0) dX12_ways_33 rfl rfl ?_
    obtain ⟨Q4, hr, h⟩ := h
    refine bw_cVv (As := []) (st := []) cv_BentWordsModel_441 rfl rfl hr rfl rfl (Nat.le_of_ble_eq_true rfl) dX12_ways_34 (fun w6 hv => ?_)
    replace h := h w6 hv
    clear hr
    refine bw_iinc (i := 4) (x := l4) (v := (l4 + 1)) (L' := [some (.ref 50), some (.int l1), some (.long l2), none, some (.int (l4 + 1))]) dX12_ways_37 rfl rfl (Nat.le_of_ble_eq_true rfl) rfl ?_
    refine bw_goto (tgt := 27) dX12_ways_40 (by decide) ?_
    exact h
theorem wfX12_ways {E : bw_E} {d : Nat} {w : bw_W} {Q : Int32 → bw_W → Prop} {a0 : Int32} {a1 : Int64}  (h : ((¬ (¬ ((gw_i w 50 34) ≤ 0)) → Q (-1) w) ∧ ((¬ ((gw_i w 50 34) ≤ 0)) → (((¬ (a0 < 1)) ∧ (¬ (40 < a0)) → bw_G E (d + 13) mX12_ways 27 [some (.ref 50), some (.int a0), some (.long a1), none, some (.int 0)] [] (sw_l w 50 43 a1) (bw_qi Q)) ∧ (¬ ((¬ (a0 < 1)) ∧ (¬ (40 < a0))) → Q (-1) w))))) : bw_ri E (d + 13) mX12_ways [.ref 50, .int a0, .long a1] w Q := by
  refine bw_enter rfl (Nat.le_of_ble_eq_true rfl) ?_
  refine bw_aload_n (i := 0) dX12_ways_0 rfl rfl ?_
  refine bw_cVb (As := []) (st := []) (Q' := (fun v w1 => (decide (¬ ((gw_i w 50 34) ≤ 0))) = v ∧ w = w1)) cv_BentWordsModel_272 rfl rfl (fs_X12_isLexicon (d := d + 12)   ⟨rfl, rfl⟩) rfl rfl (Nat.le_of_ble_eq_true rfl) dX12_ways_1 (fun v w1 hv => ?_)
  obtain ⟨rfl, rfl⟩ := hv
  refine bw_ifb_eq (tgt := 17) dX12_ways_4 (by decide) (fun c => ?_) (fun c => ?_)
  · replace h := h.1 (of_decide_eq_false c)
    refine bw_iconst (v := (-1)) dX12_ways_17 (by decide) ?_
    exact bw_ireturn dX12_ways_18 rfl rfl ⟨_, rfl, h⟩
  · replace h := h.2 (of_decide_eq_true c)
    refine bw_iload_n (i := 1) dX12_ways_7 rfl rfl ?_
    refine bw_iconst (v := 1) dX12_ways_8 (by decide) ?_
    refine bw_bipush (v := 40) dX12_ways_9 (by decide) ?_
    refine bw_cSb (As := [.int a0, .int 1, .int 40]) (st := []) (Q' := (fun v w1 => (decide ((¬ (a0 < 1)) ∧ (¬ (40 < a0)))) = v ∧ w = w1)) cs_BentWordsModel_100 (fs_X12_in (d := d + 12) (a0 := a0) (a1 := 1) (a2 := 40)  ⟨rfl, rfl⟩) rfl rfl (Nat.le_of_ble_eq_true rfl) dX12_ways_11 (fun v w1 hv => ?_)
    obtain ⟨rfl, rfl⟩ := hv
    refine bw_ifb_ne (tgt := 19) dX12_ways_14 (by decide) (fun c => ?_) (fun c => ?_)
    · replace h := h.1 (of_decide_eq_true c)
      refine bw_aload_n (i := 0) dX12_ways_19 rfl rfl ?_
      refine bw_lload_n (i := 2) dX12_ways_20 rfl rfl ?_
      refine bw_putl fp_BentWordsModel_423 rfl dX12_ways_21 ?_
      refine bw_iconst (v := 0) dX12_ways_24 (by decide) ?_
      refine bw_istore (i := 4) (L' := [some (.ref 50), some (.int a0), some (.long a1), none, some (.int 0)]) dX12_ways_25 (Nat.le_of_ble_eq_true rfl) rfl ?_
      exact h
    · replace h := h.2 (of_decide_eq_false c)
      refine bw_iconst (v := (-1)) dX12_ways_17 (by decide) ?_
      exact bw_ireturn dX12_ways_18 rfl rfl ⟨_, rfl, h⟩
