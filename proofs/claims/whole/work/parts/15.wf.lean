theorem wfX12_fits_23 {E : bw_E} {d : Nat} {w : bw_W} {Q : Int32 → bw_W → Prop} {l1 : Int32} {l2 : Int32} {l3 : Int32} {l4 : Int32}  (h : (((gw_i w 50 34) ≤ l4 → Q l3 w) ∧ (¬ ((gw_i w 50 34) ≤ l4) → (∃ Q1 : Bool → bw_W → Prop, bw_rb E (d + 3) mX12_fitsNoun [.ref 50, .int l1, .int l2, .int l4] w Q1 ∧ ∀ v2 w3, Q1 v2 w3 →
((v2 = false → bw_G E (d + 4) mX12_fits 23 [some (.ref 50), some (.int l1), some (.int l2), some (.int (l3 ||| 0)), some (.int (l4 + 1))] [] w3 (bw_qi Q)) ∧ (v2 = true → bw_G E (d + 4) mX12_fits 23 [some (.ref 50), some (.int l1), some (.int l2), some (.int (l3 ||| ((1 : Int32) <<< (l4 &&& 31)))), some (.int (l4 + 1))] [] w3 (bw_qi Q))))))) : bw_G E (d + 4) mX12_fits 23 [some (.ref 50), some (.int l1), some (.int l2), some (.int l3), some (.int l4)] [] w (bw_qi Q) := by
  refine bw_iload dX12_fits_23 rfl ?_
  refine bw_aload_n (i := 0) dX12_fits_25 rfl rfl ?_
  refine bw_geti fg_BentWordsModel_269 rfl dX12_fits_26 ?_
  refine bw_icmp_ge (tgt := 60) dX12_fits_29 (by decide) (fun c => ?_) (fun c => ?_)
  · replace h := h.1 (c)
    refine bw_iload_n (i := 3) dX12_fits_60 rfl rfl ?_
    exact bw_ireturn dX12_fits_61 rfl rfl ⟨_, rfl, h⟩
  · replace h := h.2 (c)
    refine bw_iload_n (i := 3) dX12_fits_32 rfl rfl ?_
    refine bw_aload_n (i := 0) dX12_fits_33 rfl rfl ?_
    refine bw_iload_n (i := 1) dX12_fits_34 rfl rfl ?_
    refine bw_iload_n (i := 2) dX12_fits_35 rfl rfl ?_
    refine bw_iload dX12_fits_36 rfl ?_
    obtain ⟨Q1, hr, h⟩ := h
    refine bw_cVb (As := [.int l1, .int l2, .int l4]) (st := [.int l3]) cv_BentWordsModel_468 rfl rfl hr rfl rfl (Nat.le_of_ble_eq_true rfl) dX12_fits_38 (fun v2 w3 hv => ?_)
    replace h := h v2 w3 hv
    clear hr
    refine bw_ifb_eq (tgt := 51) dX12_fits_41 (by decide) (fun c => ?_) (fun c => ?_)
    · replace h := h.1 (c)
      refine bw_iconst (v := 0) dX12_fits_51 (by decide) ?_
      refine bw_ior dX12_fits_52 ?_
      refine bw_istore_n (i := 3) (L' := [some (.ref 50), some (.int l1), some (.int l2), some (.int (l3 ||| 0)), some (.int l4)]) dX12_fits_53 rfl (Nat.le_of_ble_eq_true rfl) rfl ?_
      refine bw_iinc (i := 4) (x := l4) (v := (l4 + 1)) (L' := [some (.ref 50), some (.int l1), some (.int l2), some (.int (l3 ||| 0)), some (.int (l4 + 1))]) dX12_fits_54 rfl rfl (Nat.le_of_ble_eq_true rfl) rfl ?_
      refine bw_goto (tgt := 23) dX12_fits_57 (by decide) ?_
      exact h
    · replace h := h.2 (c)
      refine bw_iconst (v := 1) dX12_fits_44 (by decide) ?_
      refine bw_iload dX12_fits_45 rfl ?_
      refine bw_ishl dX12_fits_47 ?_
      refine bw_goto (tgt := 52) dX12_fits_48 (by decide) ?_
      refine bw_ior dX12_fits_52 ?_
      refine bw_istore_n (i := 3) (L' := [some (.ref 50), some (.int l1), some (.int l2), some (.int (l3 ||| ((1 : Int32) <<< (l4 &&& 31)))), some (.int l4)]) dX12_fits_53 rfl (Nat.le_of_ble_eq_true rfl) rfl ?_
      refine bw_iinc (i := 4) (x := l4) (v := (l4 + 1)) (L' := [some (.ref 50), some (.int l1), some (.int l2), some (.int (l3 ||| ((1 : Int32) <<< (l4 &&& 31)))), some (.int (l4 + 1))]) dX12_fits_54 rfl rfl (Nat.le_of_ble_eq_true rfl) rfl ?_
      refine bw_goto (tgt := 23) dX12_fits_57 (by decide) ?_
      exact h
theorem wfX12_fits {E : bw_E} {d : Nat} {w : bw_W} {Q : Int32 → bw_W → Prop} {a0 : Int32} {a1 : Int32}  (h : ((¬ ((¬ ((gw_i w 50 34) ≤ 0)) ∧ ((¬ (a0 < 0)) ∧ (¬ (((gw_i w 50 35) - 1) < a0)))) → Q (-1) w) ∧ ((¬ ((gw_i w 50 34) ≤ 0)) ∧ ((¬ (a0 < 0)) ∧ (¬ (((gw_i w 50 35) - 1) < a0))) → (((¬ ((gw_i w 50 34) ≤ 0)) ∧ ((¬ (a1 < 0)) ∧ (¬ (2 < a1))) → bw_G E (d + 4) mX12_fits 23 [some (.ref 50), some (.int a0), some (.int a1), some (.int 0), some (.int 0)] [] w (bw_qi Q)) ∧ (¬ ((¬ ((gw_i w 50 34) ≤ 0)) ∧ ((¬ (a1 < 0)) ∧ (¬ (2 < a1)))) → Q (-1) w))))) : bw_ri E (d + 4) mX12_fits [.ref 50, .int a0, .int a1] w Q := by
  refine bw_enter rfl (Nat.le_of_ble_eq_true rfl) ?_
  refine bw_aload_n (i := 0) dX12_fits_0 rfl rfl ?_
  refine bw_iload_n (i := 1) dX12_fits_1 rfl rfl ?_
  refine bw_cVb (As := [.int a0]) (st := []) (Q' := (fun v w1 => (decide ((¬ ((gw_i w 50 34) ≤ 0)) ∧ ((¬ (a0 < 0)) ∧ (¬ (((gw_i w 50 35) - 1) < a0))))) = v ∧ w = w1)) cv_BentWordsModel_453 rfl rfl (fs_X12_isMessage (d := d + 2) (a0 := a0)  ⟨rfl, rfl⟩) rfl rfl (Nat.le_of_ble_eq_true rfl) dX12_fits_2 (fun v w1 hv => ?_)
  obtain ⟨rfl, rfl⟩ := hv
  refine bw_ifb_eq (tgt := 16) dX12_fits_5 (by decide) (fun c => ?_) (fun c => ?_)
  · replace h := h.1 (of_decide_eq_false c)
    refine bw_iconst (v := (-1)) dX12_fits_16 (by decide) ?_
    exact bw_ireturn dX12_fits_17 rfl rfl ⟨_, rfl, h⟩
  · replace h := h.2 (of_decide_eq_true c)
    refine bw_aload_n (i := 0) dX12_fits_8 rfl rfl ?_
    refine bw_iload_n (i := 2) dX12_fits_9 rfl rfl ?_
    refine bw_cVb (As := [.int a1]) (st := []) (Q' := (fun v w1 => (decide ((¬ ((gw_i w 50 34) ≤ 0)) ∧ ((¬ (a1 < 0)) ∧ (¬ (2 < a1))))) = v ∧ w = w1)) cv_BentWordsModel_373 rfl rfl (fs_X12_isHole (d := d + 2) (a0 := a1)  ⟨rfl, rfl⟩) rfl rfl (Nat.le_of_ble_eq_true rfl) dX12_fits_10 (fun v w1 hv => ?_)
    obtain ⟨rfl, rfl⟩ := hv
    refine bw_ifb_ne (tgt := 18) dX12_fits_13 (by decide) (fun c => ?_) (fun c => ?_)
    · replace h := h.1 (of_decide_eq_true c)
      refine bw_iconst (v := 0) dX12_fits_18 (by decide) ?_
      refine bw_istore_n (i := 3) (L' := [some (.ref 50), some (.int a0), some (.int a1), some (.int 0), none]) dX12_fits_19 rfl (Nat.le_of_ble_eq_true rfl) rfl ?_
      refine bw_iconst (v := 0) dX12_fits_20 (by decide) ?_
      refine bw_istore (i := 4) (L' := [some (.ref 50), some (.int a0), some (.int a1), some (.int 0), some (.int 0)]) dX12_fits_21 (Nat.le_of_ble_eq_true rfl) rfl ?_
      exact h
    · replace h := h.2 (of_decide_eq_false c)
      refine bw_iconst (v := (-1)) dX12_fits_16 (by decide) ?_
      exact bw_ireturn dX12_fits_17 rfl rfl ⟨_, rfl, h⟩
theorem wfX12_formBy {E : bw_E} {d : Nat} {w : bw_W} {Q : Int64 → bw_W → Prop} {a0 : Int32} {a1 : Int32}  (h : (∃ Q1 : Int64 → bw_W → Prop, bw_rl E (d + 3) mX12_formOf [.ref 50, .int a0, .int (a1 / 2), .int (a1 - a1 / 2 * 2)] w Q1 ∧ ∀ v2 w3, Q1 v2 w3 →
Q v2 w3)) : bw_rl E (d + 4) mX12_formBy [.ref 50, .int a0, .int a1] w Q := by
  refine bw_enter rfl (Nat.le_of_ble_eq_true rfl) ?_
  refine bw_aload_n (i := 0) dX12_formBy_0 rfl rfl ?_
  refine bw_iload_n (i := 1) dX12_formBy_1 rfl rfl ?_
  refine bw_iload_n (i := 2) dX12_formBy_2 rfl rfl ?_
  refine bw_iconst (v := 2) dX12_formBy_3 (by decide) ?_
  refine bw_idiv dX12_formBy_4 (by decide) ?_
  refine bw_iload_n (i := 2) dX12_formBy_5 rfl rfl ?_
  refine bw_iconst (v := 2) dX12_formBy_6 (by decide) ?_
  refine bw_irem dX12_formBy_7 (by decide) ?_
  obtain ⟨Q1, hr, h⟩ := h
  refine bw_cVl (As := [.int a0, .int (a1 / 2), .int (a1 - a1 / 2 * 2)]) (st := []) cv_BentWordsModel_351 rfl rfl hr rfl rfl (Nat.le_of_ble_eq_true rfl) dX12_formBy_8 (fun v2 w3 hv => ?_)
  replace h := h v2 w3 hv
  clear hr
  exact bw_lreturn dX12_formBy_11 rfl ⟨_, rfl, h⟩
theorem wfX10_longest_6 {E : bw_E} {d : Nat} {w : bw_W} {Q : Int32 → bw_W → Prop} {l1 : Int32} {l2 : Int32} {l3 : Int32}  (h : (((gw_i w 18 6) ≤ l3 → Q l1 w) ∧ (¬ ((gw_i w 18 6) ≤ l3) → (∃ Q1 : Int32 → bw_W → Prop, bw_ri E (d + 4) mX10_bytesTold [.ref 35, .int l3] w Q1 ∧ ∀ v2 w3, Q1 v2 w3 →
((v2 ≤ l2 → bw_G E (d + 5) mX10_longest 6 [some (.ref 35), some (.int l1), some (.int l2), some (.int (l3 + 1)), none] [] w3 (bw_qi Q)) ∧ (¬ (v2 ≤ l2) → bw_G E (d + 5) mX10_longest 6 [some (.ref 35), some (.int l3), some (.int v2), some (.int (l3 + 1)), none] [] w3 (bw_qi Q))))))) : bw_G E (d + 5) mX10_longest 6 [some (.ref 35), some (.int l1), some (.int l2), some (.int l3), none] [] w (bw_qi Q) := by
  refine bw_iload_n (i := 3) dX10_longest_6 rfl rfl ?_
  refine bw_aload_n (i := 0) dX10_longest_7 rfl rfl ?_
  refine bw_getr (r := 18) fg_BentWords_Teller_9 rfl rfl dX10_longest_8 ?_
  refine bw_geti fg_BentWords_Teller_45 rfl dX10_longest_11 ?_
  refine bw_icmp_ge (tgt := 41) dX10_longest_14 (by decide) (fun c => ?_) (fun c => ?_)
  · replace h := h.1 (c)
    refine bw_iload_n (i := 1) dX10_longest_41 rfl rfl ?_
    exact bw_ireturn dX10_longest_42 rfl rfl ⟨_, rfl, h⟩
  · replace h := h.2 (c)
    refine bw_aload_n (i := 0) dX10_longest_17 rfl rfl ?_
    refine bw_iload_n (i := 3) dX10_longest_18 rfl rfl ?_
    obtain ⟨Q1, hr, h⟩ := h
    refine bw_cVi (As := [.int l3]) (st := []) cv_BentWords_Teller_180 rfl rfl hr rfl rfl (Nat.le_of_ble_eq_true rfl) dX10_longest_19 (fun v2 w3 hv => ?_)
    replace h := h v2 w3 hv
    clear hr
    refine bw_istore (i := 4) (L' := [some (.ref 35), some (.int l1), some (.int l2), some (.int l3), some (.int v2)]) dX10_longest_22 (Nat.le_of_ble_eq_true rfl) rfl ?_
    refine bw_iload dX10_longest_24 rfl ?_
    refine bw_iload_n (i := 2) dX10_longest_26 rfl rfl ?_
    refine bw_icmp_le (tgt := 35) dX10_longest_27 (by decide) (fun c => ?_) (fun c => ?_)
    · replace h := h.1 (c)
      refine bw_iinc (i := 3) (x := l3) (v := (l3 + 1)) (L' := [some (.ref 35), some (.int l1), some (.int l2), some (.int (l3 + 1)), some (.int v2)]) dX10_longest_35 rfl rfl (Nat.le_of_ble_eq_true rfl) rfl ?_
      refine bw_goto (tgt := 6) dX10_longest_38 (by decide) ?_
      exact bw_wk [4] rfl h
    · replace h := h.2 (c)
      refine bw_iload_n (i := 3) dX10_longest_30 rfl rfl ?_
      refine bw_istore_n (i := 1) (L' := [some (.ref 35), some (.int l3), some (.int l2), some (.int l3), some (.int v2)]) dX10_longest_31 rfl (Nat.le_of_ble_eq_true rfl) rfl ?_
      refine bw_iload dX10_longest_32 rfl ?_
      refine bw_istore_n (i := 2) (L' := [some (.ref 35), some (.int l3), some (.int v2), some (.int l3), some (.int v2)]) dX10_longest_34 rfl (Nat.le_of_ble_eq_true rfl) rfl ?_
      refine bw_iinc (i := 3) (x := l3) (v := (l3 + 1)) (L' := [some (.ref 35), some (.int l3), some (.int v2), some (.int (l3 + 1)), some (.int v2)]) dX10_longest_35 rfl rfl (Nat.le_of_ble_eq_true rfl) rfl ?_
      refine bw_goto (tgt := 6) dX10_longest_38 (by decide) ?_
      exact bw_wk [4] rfl h
theorem wfX10_longest {E : bw_E} {d : Nat} {w : bw_W} {Q : Int32 → bw_W → Prop}   (h : bw_G E (d + 5) mX10_longest 6 [some (.ref 35), some (.int (-1)), some (.int (-1)), some (.int 0), none] [] w (bw_qi Q)) : bw_ri E (d + 5) mX10_longest [.ref 35] w Q := by
  refine bw_enter rfl (Nat.le_of_ble_eq_true rfl) ?_
  refine bw_iconst (v := (-1)) dX10_longest_0 (by decide) ?_
  refine bw_istore_n (i := 1) (L' := [some (.ref 35), some (.int (-1)), none, none, none]) dX10_longest_1 rfl (Nat.le_of_ble_eq_true rfl) rfl ?_
  refine bw_iconst (v := (-1)) dX10_longest_2 (by decide) ?_
  refine bw_istore_n (i := 2) (L' := [some (.ref 35), some (.int (-1)), some (.int (-1)), none, none]) dX10_longest_3 rfl (Nat.le_of_ble_eq_true rfl) rfl ?_
  refine bw_iconst (v := 0) dX10_longest_4 (by decide) ?_
  refine bw_istore_n (i := 3) (L' := [some (.ref 35), some (.int (-1)), some (.int (-1)), some (.int 0), none]) dX10_longest_5 rfl (Nat.le_of_ble_eq_true rfl) rfl ?_
  exact h
theorem wfX11_rule {E : bw_E} {d : Nat} {w : bw_W} {Q : Int32 → bw_W → Prop} {a0 : Int32}  (h : ((¬ (gw_i w 0 5) = 0 → ((a0 = 0 → Q (gw_i w 18 0) w) ∧ (a0 = 1 → Q (gw_i w 18 6) w) ∧ (a0 = 2 → (∃ Q1 : Int32 → bw_W → Prop, bw_ri E (d + 4) mX11_wordsIn [.ref 22, .int 0, .int 24] w Q1 ∧ ∀ v2 w3, Q1 v2 w3 →
Q v2 w3)) ∧ (a0 = 3 → (∃ Q4 : Int32 → bw_W → Prop, bw_ri E (d + 4) mX11_wordsIn [.ref 23, .int 0, .int 24] w Q4 ∧ ∀ v5 w6, Q4 v5 w6 →
Q v5 w6)) ∧ (a0 = 4 → (∃ Q7 : Int32 → bw_W → Prop, bw_ri E (d + 4) mX11_wordsIn [.ref 32, .int 0, .int 48] w Q7 ∧ ∀ v8 w9, Q7 v8 w9 →
Q v8 w9)) ∧ (a0 = 5 → ((¬ (¬ (gw_l w 32 51) = 0) → Q 0 w) ∧ ((¬ (gw_l w 32 51) = 0) → Q 1 w))) ∧ (a0 = 6 → (∃ Q10 : Int32 → bw_W → Prop, bw_ri E (d + 4) mX10_tellableBits [.ref 35] w Q10 ∧ ∀ v11 w12, Q10 v11 w12 →
Q v11 w12)) ∧ (a0.toInt < 0 ∨ 6 < a0.toInt → Q (-1) w))) ∧ ((gw_i w 0 5) = 0 → Q (-1) w))) : bw_ri E (d + 5) mX11_rule [.ref 0, .int a0] w Q := by
  refine bw_enter rfl (Nat.le_of_ble_eq_true rfl) ?_
  refine bw_aload_n (i := 0) dX11_rule_0 rfl rfl ?_
  refine bw_geti fg_BentWords_140 rfl dX11_rule_1 ?_
  refine bw_if_ne (tgt := 9) dX11_rule_4 (by decide) (fun c => ?_) (fun c => ?_)
  · replace h := h.1 (c)
    refine bw_iload_n (i := 1) dX11_rule_9 rfl rfl ?_
    refine bw_tabsw dX11_rule_10 [52, 60, 68, 88, 108, 122, 138] 146 (by decide) rfl rfl (fun j hj hx => ?_) (fun hx => ?_)
    · match j, hj, hx with
      | 0, _, hx =>
        replace h := h.1 (bw_ti hx (by decide))
        refine bw_aload_n (i := 0) dX11_rule_52 rfl rfl ?_
        refine bw_getr (r := 18) fg_BentWords_44 rfl rfl dX11_rule_53 ?_
        refine bw_geti fg_BentWords_153 rfl dX11_rule_56 ?_
        exact bw_ireturn dX11_rule_59 rfl rfl ⟨_, rfl, h⟩
      | 1, _, hx =>
        replace h := h.2.1 (bw_ti hx (by decide))
        refine bw_aload_n (i := 0) dX11_rule_60 rfl rfl ?_
        refine bw_getr (r := 18) fg_BentWords_44 rfl rfl dX11_rule_61 ?_
        refine bw_geti fg_BentWords_156 rfl dX11_rule_64 ?_
        exact bw_ireturn dX11_rule_67 rfl rfl ⟨_, rfl, h⟩
      | 2, _, hx =>
        replace h := h.2.2.1 (bw_ti hx (by decide))
        refine bw_aload_n (i := 0) dX11_rule_68 rfl rfl ?_
        refine bw_getr (r := 18) fg_BentWords_44 rfl rfl dX11_rule_69 ?_
        refine bw_getr (r := 22) fg_BentWords_159 rfl rfl dX11_rule_72 ?_
        refine bw_iconst (v := 0) dX11_rule_75 (by decide) ?_
        refine bw_aload_n (i := 0) dX11_rule_76 rfl rfl ?_
        refine bw_getr (r := 18) fg_BentWords_44 rfl rfl dX11_rule_77 ?_
        refine bw_getr (r := 22) fg_BentWords_159 rfl rfl dX11_rule_80 ?_
        refine bw_alenl (v := 24) rfl (by decide) dX11_rule_83 ?_
        obtain ⟨Q1, hr, h⟩ := h
        refine bw_cSi (As := [.ref 22, .int 0, .int 24]) (st := []) cs_BentWords_163 hr rfl rfl (Nat.le_of_ble_eq_true rfl) dX11_rule_84 (fun v2 w3 hv => ?_)
        replace h := h v2 w3 hv
        clear hr
        exact bw_ireturn dX11_rule_87 rfl rfl ⟨_, rfl, h⟩
      | 3, _, hx =>
        replace h := h.2.2.2.1 (bw_ti hx (by decide))
        refine bw_aload_n (i := 0) dX11_rule_88 rfl rfl ?_
        refine bw_getr (r := 18) fg_BentWords_44 rfl rfl dX11_rule_89 ?_
        refine bw_getr (r := 23) fg_BentWords_167 rfl rfl dX11_rule_92 ?_
        refine bw_iconst (v := 0) dX11_rule_95 (by decide) ?_
        refine bw_aload_n (i := 0) dX11_rule_96 rfl rfl ?_
        refine bw_getr (r := 18) fg_BentWords_44 rfl rfl dX11_rule_97 ?_
        refine bw_getr (r := 23) fg_BentWords_167 rfl rfl dX11_rule_100 ?_
        refine bw_alenl (v := 24) rfl (by decide) dX11_rule_103 ?_
        obtain ⟨Q4, hr, h⟩ := h
        refine bw_cSi (As := [.ref 23, .int 0, .int 24]) (st := []) cs_BentWords_163 hr rfl rfl (Nat.le_of_ble_eq_true rfl) dX11_rule_104 (fun v5 w6 hv => ?_)
        replace h := h v5 w6 hv
        clear hr
        exact bw_ireturn dX11_rule_107 rfl rfl ⟨_, rfl, h⟩
      | 4, _, hx =>
        replace h := h.2.2.2.2.1 (bw_ti hx (by decide))
        refine bw_aload_n (i := 0) dX11_rule_108 rfl rfl ?_
        refine bw_getr (r := 31) fg_BentWords_58 rfl rfl dX11_rule_109 ?_
        refine bw_getr (r := 32) fg_BentWords_170 rfl rfl dX11_rule_112 ?_
        refine bw_iconst (v := 0) dX11_rule_115 (by decide) ?_
        refine bw_bipush (v := 48) dX11_rule_116 (by decide) ?_
        obtain ⟨Q7, hr, h⟩ := h
        refine bw_cSi (As := [.ref 32, .int 0, .int 48]) (st := []) cs_BentWords_163 hr rfl rfl (Nat.le_of_ble_eq_true rfl) dX11_rule_118 (fun v8 w9 hv => ?_)
        replace h := h v8 w9 hv
        clear hr
        exact bw_ireturn dX11_rule_121 rfl rfl ⟨_, rfl, h⟩
      | 5, _, hx =>
        replace h := h.2.2.2.2.2.1 (bw_ti hx (by decide))
        refine bw_aload_n (i := 0) dX11_rule_122 rfl rfl ?_
        refine bw_getr (r := 31) fg_BentWords_58 rfl rfl dX11_rule_123 ?_
        refine bw_cVb (As := []) (st := []) (Q' := (fun v w1 => (decide (¬ (gw_l w 32 51) = 0)) = v ∧ w = w1)) cv_BentWords_173 rfl rfl (fs_X7_isStrict (d := d + 4)   ⟨rfl, rfl⟩) rfl rfl (Nat.le_of_ble_eq_true rfl) dX11_rule_126 (fun v w1 hv => ?_)
        obtain ⟨rfl, rfl⟩ := hv
        refine bw_ifb_eq (tgt := 136) dX11_rule_129 (by decide) (fun c => ?_) (fun c => ?_)
        · replace h := h.1 (of_decide_eq_false c)
          refine bw_iconst (v := 0) dX11_rule_136 (by decide) ?_
          exact bw_ireturn dX11_rule_137 rfl rfl ⟨_, rfl, h⟩
        · replace h := h.2 (of_decide_eq_true c)
          refine bw_iconst (v := 1) dX11_rule_132 (by decide) ?_
          refine bw_goto (tgt := 137) dX11_rule_133 (by decide) ?_
          exact bw_ireturn dX11_rule_137 rfl rfl ⟨_, rfl, h⟩
      | 6, _, hx =>
        replace h := h.2.2.2.2.2.2.1 (bw_ti hx (by decide))
        refine bw_aload_n (i := 0) dX11_rule_138 rfl rfl ?_
        refine bw_getr (r := 35) fg_BentWords_70 rfl rfl dX11_rule_139 ?_
        obtain ⟨Q10, hr, h⟩ := h
        refine bw_cVi (As := []) (st := []) cv_BentWords_177 rfl rfl hr rfl rfl (Nat.le_of_ble_eq_true rfl) dX11_rule_142 (fun v11 w12 hv => ?_)
        replace h := h v11 w12 hv
        clear hr
        exact bw_ireturn dX11_rule_145 rfl rfl ⟨_, rfl, h⟩
      | j + 7, hj, _ => exact absurd hj (by simp)
    · replace h := h.2.2.2.2.2.2.2 hx
      refine bw_iconst (v := (-1)) dX11_rule_146 (by decide) ?_
      exact bw_ireturn dX11_rule_147 rfl rfl ⟨_, rfl, h⟩
  · replace h := h.2 (c)
    refine bw_iconst (v := (-1)) dX11_rule_7 (by decide) ?_
    exact bw_ireturn dX11_rule_8 rfl rfl ⟨_, rfl, h⟩
theorem wfX11_message {E : bw_E} {d : Nat} {w : bw_W} {Q : Int32 → bw_W → Prop} {a0 : Int32} {a1 : Int32}  (h : (((¬ (a0 < 0)) ∧ (¬ ((gw_i w 18 6) ≤ a0)) → ((a1 = 0 → (vp_in a0 4) ∧
Q (gw_i w 25 (a0.toNatClampNeg)) w) ∧ (a1 = 1 → (∃ Q2 : Int32 → bw_W → Prop, bw_ri E (d + 4) mX3_holesAskedBy [.ref 18, .int a0] w Q2 ∧ ∀ v3 w4, Q2 v3 w4 →
Q v3 w4)) ∧ (a1 = 2 → (∃ Q5 : Bool → bw_W → Prop, bw_rb E (d + 4) mX10_canTell [.ref 35, .int a0] w Q5 ∧ ∀ v6 w7, Q5 v6 w7 →
((v6 = false → Q 0 w7) ∧ (v6 = true → Q 1 w7)))) ∧ (a1 = 3 → (∃ Q8 : Int32 → bw_W → Prop, bw_ri E (d + 4) mX10_bytesTold [.ref 35, .int a0] w Q8 ∧ ∀ v9 w10, Q8 v9 w10 →
Q v9 w10)) ∧ (a1.toInt < 0 ∨ 3 < a1.toInt → Q (-1) w))) ∧ (¬ ((¬ (a0 < 0)) ∧ (¬ ((gw_i w 18 6) ≤ a0))) → Q (-1) w))) : bw_ri E (d + 5) mX11_message [.ref 0, .int a0, .int a1] w Q := by
  refine bw_enter rfl (Nat.le_of_ble_eq_true rfl) ?_
  refine bw_aload_n (i := 0) dX11_message_0 rfl rfl ?_
  refine bw_iload_n (i := 1) dX11_message_1 rfl rfl ?_
  refine bw_cVb (As := [.int a0]) (st := []) (Q' := (fun v w1 => (decide ((¬ (a0 < 0)) ∧ (¬ ((gw_i w 18 6) ≤ a0)))) = v ∧ w = w1)) cv_BentWords_235 rfl rfl (fs_X11_hasMessage (d := d + 4) (a0 := a0)  ⟨rfl, rfl⟩) rfl rfl (Nat.le_of_ble_eq_true rfl) dX11_message_2 (fun v w1 hv => ?_)
  obtain ⟨rfl, rfl⟩ := hv
  refine bw_ifb_ne (tgt := 10) dX11_message_5 (by decide) (fun c => ?_) (fun c => ?_)
  · replace h := h.1 (of_decide_eq_true c)
    refine bw_iload_n (i := 2) dX11_message_10 rfl rfl ?_
    refine bw_tabsw dX11_message_11 [40, 50, 59, 76] 85 (by decide) rfl rfl (fun j hj hx => ?_) (fun hx => ?_)
    · match j, hj, hx with
      | 0, _, hx =>
        replace h := h.1 (bw_ti hx (by decide))
        refine bw_aload_n (i := 0) dX11_message_40 rfl rfl ?_
        refine bw_getr (r := 18) fg_BentWords_44 rfl rfl dX11_message_41 ?_
        refine bw_getr (r := 25) fg_BentWords_238 rfl rfl dX11_message_44 ?_
        refine bw_iload_n (i := 1) dX11_message_47 rfl rfl ?_
        obtain ⟨hi1, h⟩ := h
        refine bw_iaload rfl hi1 dX11_message_48 ?_
        exact bw_ireturn dX11_message_49 rfl rfl ⟨_, rfl, h⟩
      | 1, _, hx =>
        replace h := h.2.1 (bw_ti hx (by decide))
        refine bw_aload_n (i := 0) dX11_message_50 rfl rfl ?_
        refine bw_getr (r := 18) fg_BentWords_44 rfl rfl dX11_message_51 ?_
        refine bw_iload_n (i := 1) dX11_message_54 rfl rfl ?_
        obtain ⟨Q2, hr, h⟩ := h
        refine bw_cVi (As := [.int a0]) (st := []) cv_BentWords_241 rfl rfl hr rfl rfl (Nat.le_of_ble_eq_true rfl) dX11_message_55 (fun v3 w4 hv => ?_)
        replace h := h v3 w4 hv
        clear hr
        exact bw_ireturn dX11_message_58 rfl rfl ⟨_, rfl, h⟩
      | 2, _, hx =>
        replace h := h.2.2.1 (bw_ti hx (by decide))
        refine bw_aload_n (i := 0) dX11_message_59 rfl rfl ?_
        refine bw_getr (r := 35) fg_BentWords_70 rfl rfl dX11_message_60 ?_
        refine bw_iload_n (i := 1) dX11_message_63 rfl rfl ?_
        obtain ⟨Q5, hr, h⟩ := h
        refine bw_cVb (As := [.int a0]) (st := []) cv_BentWords_244 rfl rfl hr rfl rfl (Nat.le_of_ble_eq_true rfl) dX11_message_64 (fun v6 w7 hv => ?_)
        replace h := h v6 w7 hv
        clear hr
        refine bw_ifb_eq (tgt := 74) dX11_message_67 (by decide) (fun c => ?_) (fun c => ?_)
        · replace h := h.1 (c)
          refine bw_iconst (v := 0) dX11_message_74 (by decide) ?_
          exact bw_ireturn dX11_message_75 rfl rfl ⟨_, rfl, h⟩
        · replace h := h.2 (c)
          refine bw_iconst (v := 1) dX11_message_70 (by decide) ?_
          refine bw_goto (tgt := 75) dX11_message_71 (by decide) ?_
          exact bw_ireturn dX11_message_75 rfl rfl ⟨_, rfl, h⟩
      | 3, _, hx =>
        replace h := h.2.2.2.1 (bw_ti hx (by decide))
        refine bw_aload_n (i := 0) dX11_message_76 rfl rfl ?_
        refine bw_getr (r := 35) fg_BentWords_70 rfl rfl dX11_message_77 ?_
        refine bw_iload_n (i := 1) dX11_message_80 rfl rfl ?_
        obtain ⟨Q8, hr, h⟩ := h
        refine bw_cVi (As := [.int a0]) (st := []) cv_BentWords_247 rfl rfl hr rfl rfl (Nat.le_of_ble_eq_true rfl) dX11_message_81 (fun v9 w10 hv => ?_)
        replace h := h v9 w10 hv
        clear hr
        exact bw_ireturn dX11_message_84 rfl rfl ⟨_, rfl, h⟩
      | j + 4, hj, _ => exact absurd hj (by simp)
    · replace h := h.2.2.2.2 hx
      refine bw_iconst (v := (-1)) dX11_message_85 (by decide) ?_
      exact bw_ireturn dX11_message_86 rfl rfl ⟨_, rfl, h⟩
  · replace h := h.2 (of_decide_eq_false c)
    refine bw_iconst (v := (-1)) dX11_message_8 (by decide) ?_
    exact bw_ireturn dX11_message_9 rfl rfl ⟨_, rfl, h⟩
theorem wfX11_told {E : bw_E} {d : Nat} {w : bw_W} {Q : Int32 → bw_W → Prop} {a0 : Int32} {a1 : Int32}  (h : (((¬ (a0 < 0)) ∧ (¬ ((gw_i w 18 6) ≤ a0)) → (∃ Q1 : Int32 → bw_W → Prop, bw_ri E (d + 4) mX10_bytesTold [.ref 35, .int a0] w Q1 ∧ ∀ v2 w3, Q1 v2 w3 →
((a1 < 0 → Q (-1) w3) ∧ (¬ (a1 < 0) → ((v2 ≤ a1 → Q (-1) w3) ∧ (¬ (v2 ≤ a1) → (vp_in a1 144) ∧
Q (gw_i w3 36 (a1.toNatClampNeg)) w3)))))) ∧ (¬ ((¬ (a0 < 0)) ∧ (¬ ((gw_i w 18 6) ≤ a0))) → Q (-1) w))) : bw_ri E (d + 5) mX11_told [.ref 0, .int a0, .int a1] w Q := by
  refine bw_enter rfl (Nat.le_of_ble_eq_true rfl) ?_
  refine bw_aload_n (i := 0) dX11_told_0 rfl rfl ?_
  refine bw_iload_n (i := 1) dX11_told_1 rfl rfl ?_
  refine bw_cVb (As := [.int a0]) (st := []) (Q' := (fun v w1 => (decide ((¬ (a0 < 0)) ∧ (¬ ((gw_i w 18 6) ≤ a0)))) = v ∧ w = w1)) cv_BentWords_235 rfl rfl (fs_X11_hasMessage (d := d + 4) (a0 := a0)  ⟨rfl, rfl⟩) rfl rfl (Nat.le_of_ble_eq_true rfl) dX11_told_2 (fun v w1 hv => ?_)
  obtain ⟨rfl, rfl⟩ := hv
  refine bw_ifb_ne (tgt := 10) dX11_told_5 (by decide) (fun c => ?_) (fun c => ?_)
  · replace h := h.1 (of_decide_eq_true c)
    refine bw_aload_n (i := 0) dX11_told_10 rfl rfl ?_
    refine bw_getr (r := 35) fg_BentWords_70 rfl rfl dX11_told_11 ?_
    refine bw_iload_n (i := 1) dX11_told_14 rfl rfl ?_
    obtain ⟨Q1, hr, h⟩ := h
    refine bw_cVi (As := [.int a0]) (st := []) cv_BentWords_247 rfl rfl hr rfl rfl (Nat.le_of_ble_eq_true rfl) dX11_told_15 (fun v2 w3 hv => ?_)
    replace h := h v2 w3 hv
    clear hr
    refine bw_istore_n (i := 3) (L' := [some (.ref 0), some (.int a0), some (.int a1), some (.int v2)]) dX11_told_18 rfl (Nat.le_of_ble_eq_true rfl) rfl ?_
    refine bw_iload_n (i := 2) dX11_told_19 rfl rfl ?_
    refine bw_if_lt (tgt := 40) dX11_told_20 (by decide) (fun c => ?_) (fun c => ?_)
    · replace h := h.1 (c)
      refine bw_iconst (v := (-1)) dX11_told_40 (by decide) ?_
      exact bw_ireturn dX11_told_41 rfl rfl ⟨_, rfl, h⟩
    · replace h := h.2 (c)
      refine bw_iload_n (i := 2) dX11_told_23 rfl rfl ?_
      refine bw_iload_n (i := 3) dX11_told_24 rfl rfl ?_
      refine bw_icmp_ge (tgt := 40) dX11_told_25 (by decide) (fun c => ?_) (fun c => ?_)
      · replace h := h.1 (c)
        refine bw_iconst (v := (-1)) dX11_told_40 (by decide) ?_
        exact bw_ireturn dX11_told_41 rfl rfl ⟨_, rfl, h⟩
      · replace h := h.2 (c)
        refine bw_aload_n (i := 0) dX11_told_28 rfl rfl ?_
        refine bw_getr (r := 35) fg_BentWords_70 rfl rfl dX11_told_29 ?_
        refine bw_getr (r := 36) fg_BentWords_250 rfl rfl dX11_told_32 ?_
        refine bw_iload_n (i := 2) dX11_told_35 rfl rfl ?_
        obtain ⟨hi4, h⟩ := h
        refine bw_caload rfl hi4 dX11_told_36 ?_
        refine bw_goto (tgt := 41) dX11_told_37 (by decide) ?_
        exact bw_ireturn dX11_told_41 rfl rfl ⟨_, rfl, h⟩
  · replace h := h.2 (of_decide_eq_false c)
    refine bw_iconst (v := (-1)) dX11_told_8 (by decide) ?_
    exact bw_ireturn dX11_told_9 rfl rfl ⟨_, rfl, h⟩
theorem wfX11_countGuesses_5 {E : bw_E} {d : Nat} {w : bw_W} {Q : Int32 → bw_W → Prop} {l1 : Int32} {l2 : Int32} {l3 : Int32} {l4 : Int32}  (h : ((3 ≤ l4 → bw_G E (d + 5) mX11_countGuesses 44 [some (.ref 0), some (.int l1), some (.int l2), some (.int l3), some (.int 0), some (.int 0)] [] w (bw_qi Q)) ∧ (¬ (3 ≤ l4) → ((((l2 >>> (l4 &&& 31)) &&& 1) = 0 → bw_G E (d + 5) mX11_countGuesses 5 [some (.ref 0), some (.int l1), some (.int l2), some (.int l3), some (.int (l4 + 1)), none] [] w (bw_qi Q)) ∧ (¬ (((l2 >>> (l4 &&& 31)) &&& 1) = 0) → bw_G E (d + 5) mX11_countGuesses 5 [some (.ref 0), some (.int l1), some (.int l2), some (.int (l3 * (2 * (gw_i w 18 0)))), some (.int (l4 + 1)), none] [] w (bw_qi Q)))))) : bw_G E (d + 5) mX11_countGuesses 5 [some (.ref 0), some (.int l1), some (.int l2), some (.int l3), some (.int l4), none] [] w (bw_qi Q) := by
  refine bw_iload dX11_countGuesses_5 rfl ?_
  refine bw_iconst (v := 3) dX11_countGuesses_7 (by decide) ?_
  refine bw_icmp_ge (tgt := 38) dX11_countGuesses_8 (by decide) (fun c => ?_) (fun c => ?_)
  · replace h := h.1 (c)
    refine bw_iconst (v := 0) dX11_countGuesses_38 (by decide) ?_
    refine bw_istore (i := 4) (L' := [some (.ref 0), some (.int l1), some (.int l2), some (.int l3), some (.int 0), none]) dX11_countGuesses_39 (Nat.le_of_ble_eq_true rfl) rfl ?_
    refine bw_iconst (v := 0) dX11_countGuesses_41 (by decide) ?_
    refine bw_istore (i := 5) (L' := [some (.ref 0), some (.int l1), some (.int l2), some (.int l3), some (.int 0), some (.int 0)]) dX11_countGuesses_42 (Nat.le_of_ble_eq_true rfl) rfl ?_
    exact h
  · replace h := h.2 (c)
    refine bw_iload_n (i := 2) dX11_countGuesses_11 rfl rfl ?_
    refine bw_iload dX11_countGuesses_12 rfl ?_
    refine bw_ishr dX11_countGuesses_14 ?_
    refine bw_iconst (v := 1) dX11_countGuesses_15 (by decide) ?_
    refine bw_iand dX11_countGuesses_16 ?_
    refine bw_if_eq (tgt := 32) dX11_countGuesses_17 (by decide) (fun c => ?_) (fun c => ?_)
    · replace h := h.1 (c)
      refine bw_iinc (i := 4) (x := l4) (v := (l4 + 1)) (L' := [some (.ref 0), some (.int l1), some (.int l2), some (.int l3), some (.int (l4 + 1)), none]) dX11_countGuesses_32 rfl rfl (Nat.le_of_ble_eq_true rfl) rfl ?_
      refine bw_goto (tgt := 5) dX11_countGuesses_35 (by decide) ?_
      exact h
    · replace h := h.2 (c)
      refine bw_iload_n (i := 3) dX11_countGuesses_20 rfl rfl ?_
      refine bw_iconst (v := 2) dX11_countGuesses_21 (by decide) ?_
      refine bw_aload_n (i := 0) dX11_countGuesses_22 rfl rfl ?_
      refine bw_getr (r := 18) fg_BentWords_44 rfl rfl dX11_countGuesses_23 ?_
      refine bw_geti fg_BentWords_153 rfl dX11_countGuesses_26 ?_
      refine bw_imul dX11_countGuesses_29 ?_
      refine bw_imul dX11_countGuesses_30 ?_
      refine bw_istore_n (i := 3) (L' := [some (.ref 0), some (.int l1), some (.int l2), some (.int (l3 * (2 * (gw_i w 18 0)))), some (.int l4), none]) dX11_countGuesses_31 rfl (Nat.le_of_ble_eq_true rfl) rfl ?_
      refine bw_iinc (i := 4) (x := l4) (v := (l4 + 1)) (L' := [some (.ref 0), some (.int l1), some (.int l2), some (.int (l3 * (2 * (gw_i w 18 0)))), some (.int (l4 + 1)), none]) dX11_countGuesses_32 rfl rfl (Nat.le_of_ble_eq_true rfl) rfl ?_
      refine bw_goto (tgt := 5) dX11_countGuesses_35 (by decide) ?_
      exact h
theorem wfX11_countGuesses_44 {E : bw_E} {d : Nat} {w : bw_W} {Q : Int32 → bw_W → Prop} {l1 : Int32} {l2 : Int32} {l3 : Int32} {l4 : Int32} {l5 : Int32}  (h : ((l3 ≤ l5 → Q l4 w) ∧ (¬ (l3 ≤ l5) → (∃ Q1 : bw_W → Prop, bw_rv E (d + 4) mX11_fillByGuess [.ref 0, .int l2, .int l5] w Q1 ∧ ∀ w3, Q1 w3 →
(∃ Q4 : Bool → bw_W → Prop, bw_rb E (d + 4) mX10_tellsAs [.ref 35, .int l1, .ref 1] w3 Q4 ∧ ∀ v5 w6, Q4 v5 w6 →
((v5 = false → bw_G E (d + 5) mX11_countGuesses 44 [some (.ref 0), some (.int l1), some (.int l2), some (.int l3), some (.int l4), some (.int (l5 + 1))] [] w6 (bw_qi Q)) ∧ (v5 = true → ((¬ l4 = 0 → bw_G E (d + 5) mX11_countGuesses 44 [some (.ref 0), some (.int l1), some (.int l2), some (.int l3), some (.int (l4 + 1)), some (.int (l5 + 1))] [] w6 (bw_qi Q)) ∧ (l4 = 0 → bw_G E (d + 5) mX11_countGuesses 44 [some (.ref 0), some (.int l1), some (.int l2), some (.int l3), some (.int (l4 + 1)), some (.int (l5 + 1))] [] (sw_i w6 0 18 l5) (bw_qi Q)))))))))) : bw_G E (d + 5) mX11_countGuesses 44 [some (.ref 0), some (.int l1), some (.int l2), some (.int l3), some (.int l4), some (.int l5)] [] w (bw_qi Q) := by
  refine bw_iload dX11_countGuesses_44 rfl ?_
  refine bw_iload_n (i := 3) dX11_countGuesses_46 rfl rfl ?_
  refine bw_icmp_ge (tgt := 92) dX11_countGuesses_47 (by decide) (fun c => ?_) (fun c => ?_)
  · replace h := h.1 (c)
    refine bw_iload dX11_countGuesses_92 rfl ?_
    exact bw_ireturn dX11_countGuesses_94 rfl rfl ⟨_, rfl, h⟩
  · replace h := h.2 (c)
    refine bw_aload_n (i := 0) dX11_countGuesses_50 rfl rfl ?_
    refine bw_iload_n (i := 2) dX11_countGuesses_51 rfl rfl ?_
    refine bw_iload dX11_countGuesses_52 rfl ?_
    obtain ⟨Q1, hr, h⟩ := h
    refine bw_cVv (As := [.int l2, .int l5]) (st := []) cv_BentWords_303 rfl rfl hr rfl rfl (Nat.le_of_ble_eq_true rfl) dX11_countGuesses_54 (fun w3 hv => ?_)
    replace h := h w3 hv
    clear hr
    refine bw_aload_n (i := 0) dX11_countGuesses_57 rfl rfl ?_
    refine bw_getr (r := 35) fg_BentWords_70 rfl rfl dX11_countGuesses_58 ?_
    refine bw_iload_n (i := 1) dX11_countGuesses_61 rfl rfl ?_
    refine bw_aload_n (i := 0) dX11_countGuesses_62 rfl rfl ?_
    refine bw_getr (r := 1) fg_BentWords_12 rfl rfl dX11_countGuesses_63 ?_
    obtain ⟨Q4, hr, h⟩ := h
    refine bw_cVb (As := [.int l1, .ref 1]) (st := []) cv_BentWords_310 rfl rfl hr rfl rfl (Nat.le_of_ble_eq_true rfl) dX11_countGuesses_66 (fun v5 w6 hv => ?_)
    replace h := h v5 w6 hv
    clear hr
    refine bw_ifb_eq (tgt := 86) dX11_countGuesses_69 (by decide) (fun c => ?_) (fun c => ?_)
    · replace h := h.1 (c)
      refine bw_iinc (i := 5) (x := l5) (v := (l5 + 1)) (L' := [some (.ref 0), some (.int l1), some (.int l2), some (.int l3), some (.int l4), some (.int (l5 + 1))]) dX11_countGuesses_86 rfl rfl (Nat.le_of_ble_eq_true rfl) rfl ?_
      refine bw_goto (tgt := 44) dX11_countGuesses_89 (by decide) ?_
      exact h
    · replace h := h.2 (c)
      refine bw_iload dX11_countGuesses_72 rfl ?_
      refine bw_if_ne (tgt := 83) dX11_countGuesses_74 (by decide) (fun c => ?_) (fun c => ?_)
      · replace h := h.1 (c)
        refine bw_iinc (i := 4) (x := l4) (v := (l4 + 1)) (L' := [some (.ref 0), some (.int l1), some (.int l2), some (.int l3), some (.int (l4 + 1)), some (.int l5)]) dX11_countGuesses_83 rfl rfl (Nat.le_of_ble_eq_true rfl) rfl ?_
        refine bw_iinc (i := 5) (x := l5) (v := (l5 + 1)) (L' := [some (.ref 0), some (.int l1), some (.int l2), some (.int l3), some (.int (l4 + 1)), some (.int (l5 + 1))]) dX11_countGuesses_86 rfl rfl (Nat.le_of_ble_eq_true rfl) rfl ?_
        refine bw_goto (tgt := 44) dX11_countGuesses_89 (by decide) ?_
        exact h
      · replace h := h.2 (c)
        refine bw_aload_n (i := 0) dX11_countGuesses_77 rfl rfl ?_
        refine bw_iload dX11_countGuesses_78 rfl ?_
        refine bw_puti fp_BentWords_300 rfl rfl rfl dX11_countGuesses_80 ?_
        refine bw_iinc (i := 4) (x := l4) (v := (l4 + 1)) (L' := [some (.ref 0), some (.int l1), some (.int l2), some (.int l3), some (.int (l4 + 1)), some (.int l5)]) dX11_countGuesses_83 rfl rfl (Nat.le_of_ble_eq_true rfl) rfl ?_
        refine bw_iinc (i := 5) (x := l5) (v := (l5 + 1)) (L' := [some (.ref 0), some (.int l1), some (.int l2), some (.int l3), some (.int (l4 + 1)), some (.int (l5 + 1))]) dX11_countGuesses_86 rfl rfl (Nat.le_of_ble_eq_true rfl) rfl ?_
        refine bw_goto (tgt := 44) dX11_countGuesses_89 (by decide) ?_
        exact h
theorem wfX11_countGuesses {E : bw_E} {d : Nat} {w : bw_W} {Q : Int32 → bw_W → Prop} {a0 : Int32} {a1 : Int32}  (h : bw_G E (d + 5) mX11_countGuesses 5 [some (.ref 0), some (.int a0), some (.int a1), some (.int 1), some (.int 0), none] [] w (bw_qi Q)) : bw_ri E (d + 5) mX11_countGuesses [.ref 0, .int a0, .int a1] w Q := by
  refine bw_enter rfl (Nat.le_of_ble_eq_true rfl) ?_
  refine bw_iconst (v := 1) dX11_countGuesses_0 (by decide) ?_
  refine bw_istore_n (i := 3) (L' := [some (.ref 0), some (.int a0), some (.int a1), some (.int 1), none, none]) dX11_countGuesses_1 rfl (Nat.le_of_ble_eq_true rfl) rfl ?_
  refine bw_iconst (v := 0) dX11_countGuesses_2 (by decide) ?_
  refine bw_istore (i := 4) (L' := [some (.ref 0), some (.int a0), some (.int a1), some (.int 1), some (.int 0), none]) dX11_countGuesses_3 (Nat.le_of_ble_eq_true rfl) rfl ?_
  exact h
theorem wfX11_would {E : bw_E} {d : Nat} {w : bw_W} {Q : Int32 → bw_W → Prop} {a0 : Int32} {a1 : Int32} {a2 : Int32}  (h : (∃ Q1 : Int32 → bw_W → Prop, bw_ri E (d + 4) mX11_refusalOf [.ref 0, .ref 49] (sw_l (sw_i (sw_i (sw_i (sw_i w 49 0 0) 49 1 a0) 49 2 a1) 49 3 a2) 49 4 0) Q1 ∧ ∀ v2 w3, Q1 v2 w3 →
((v2 = (-1) → (∃ Q4 : Int32 → bw_W → Prop, bw_ri E (d + 4) mX8_cell [.ref 49] (cw_l w3 34 (fun j => if j < 52 then (gw_l w3 32 j) else (gw_l w3 34 j))) Q4 ∧ ∀ v5 w6, Q4 v5 w6 →
(∃ Q7 : Int64 → bw_W → Prop, bw_rl E (d + 4) mX8_value [.ref 49] w6 Q7 ∧ ∀ v8 w9, Q7 v8 w9 →
(vp_in v5 52) ∧
(∃ Q11 : Int32 → bw_W → Prop, bw_ri E (d + 4) mX10_tellableBits [.ref 35] (sw_l w9 32 (v5.toNatClampNeg) v8) Q11 ∧ ∀ v12 w13, Q11 v12 w13 →
Q v12 (cw_l w13 32 (fun j => if j < 52 then (gw_l w13 34 j) else (gw_l w13 32 j))))))) ∧ (¬ (v2 = (-1)) → Q (-1) w3)))) : bw_ri E (d + 5) mX11_would [.ref 0, .int a0, .int a1, .int a2] w Q := by
  refine bw_enter rfl (Nat.le_of_ble_eq_true rfl) ?_
  refine bw_aload_n (i := 0) dX11_would_0 rfl rfl ?_
  refine bw_getr (r := 49) fg_BentWords_101 rfl rfl dX11_would_1 ?_
  refine bw_iconst (v := 0) dX11_would_4 (by decide) ?_
  refine bw_iload_n (i := 1) dX11_would_5 rfl rfl ?_
  refine bw_iload_n (i := 2) dX11_would_6 rfl rfl ?_
  refine bw_iload_n (i := 3) dX11_would_7 rfl rfl ?_
  refine bw_lconst (v := 0) dX11_would_8 rfl ?_
  refine bw_cVv (As := [.int 0, .int a0, .int a1, .int a2, .long 0]) (st := []) (Q' := (fun w1 => (sw_l (sw_i (sw_i (sw_i (sw_i w 49 0 0) 49 1 a0) 49 2 a1) 49 3 a2) 49 4 0) = w1)) cv_BentWords_317 rfl rfl (fs_X8_set (d := d + 4) (sp := 49) (a0 := 0) (a1 := a0) (a2 := a1) (a3 := a2) (a4 := 0) rfl rfl) rfl rfl (Nat.le_of_ble_eq_true rfl) dX11_would_9 (fun w1 hv => ?_)
  subst hv
  refine bw_aload_n (i := 0) dX11_would_12 rfl rfl ?_
  refine bw_aload_n (i := 0) dX11_would_13 rfl rfl ?_
  refine bw_getr (r := 49) fg_BentWords_101 rfl rfl dX11_would_14 ?_
  obtain ⟨Q1, hr, h⟩ := h
  refine bw_cVi (As := [.ref 49]) (st := []) cv_BentWords_356 rfl rfl hr rfl rfl (Nat.le_of_ble_eq_true rfl) dX11_would_17 (fun v2 w3 hv => ?_)
  replace h := h v2 w3 hv
  clear hr
  refine bw_iconst (v := (-1)) dX11_would_20 (by decide) ?_
  refine bw_icmp_eq (tgt := 26) dX11_would_21 (by decide) (fun c => ?_) (fun c => ?_)
  · replace h := h.1 (c)
    refine bw_aload_n (i := 0) dX11_would_26 rfl rfl ?_
    refine bw_getr (r := 33) fg_BentWords_62 rfl rfl dX11_would_27 ?_
    refine bw_aload_n (i := 0) dX11_would_30 rfl rfl ?_
    refine bw_getr (r := 31) fg_BentWords_58 rfl rfl dX11_would_31 ?_
    refine bw_cVv (As := [.ref 31]) (st := []) (Q' := (fun w1 => (cw_l w3 34 (fun j => if j < 52 then (gw_l w3 32 j) else (gw_l w3 34 j))) = w1)) cv_BentWords_294 rfl rfl (fs_X7_copyFrom_as (d := d + 3)   rfl) rfl rfl (Nat.le_of_ble_eq_true rfl) dX11_would_34 (fun w1 hv => ?_)
    subst hv
    refine bw_aload_n (i := 0) dX11_would_37 rfl rfl ?_
    refine bw_getr (r := 31) fg_BentWords_58 rfl rfl dX11_would_38 ?_
    refine bw_getr (r := 32) fg_BentWords_170 rfl rfl dX11_would_41 ?_
    refine bw_aload_n (i := 0) dX11_would_44 rfl rfl ?_
    refine bw_getr (r := 49) fg_BentWords_101 rfl rfl dX11_would_45 ?_
    obtain ⟨Q4, hr, h⟩ := h
    refine bw_cVi (As := []) (st := [.ref 32]) cv_BentWords_360 rfl rfl hr rfl rfl (Nat.le_of_ble_eq_true rfl) dX11_would_48 (fun v5 w6 hv => ?_)
    replace h := h v5 w6 hv
    clear hr
    refine bw_aload_n (i := 0) dX11_would_51 rfl rfl ?_
    refine bw_getr (r := 49) fg_BentWords_101 rfl rfl dX11_would_52 ?_
    obtain ⟨Q7, hr, h⟩ := h
    refine bw_cVl (As := []) (st := [.int v5, .ref 32]) cv_BentWords_363 rfl rfl hr rfl rfl (Nat.le_of_ble_eq_true rfl) dX11_would_55 (fun v8 w9 hv => ?_)
    replace h := h v8 w9 hv
    clear hr
    obtain ⟨hi10, h⟩ := h
    refine bw_lastore rfl hi10 dX11_would_58 ?_
    refine bw_aload_n (i := 0) dX11_would_59 rfl rfl ?_
    refine bw_getr (r := 35) fg_BentWords_70 rfl rfl dX11_would_60 ?_
    obtain ⟨Q11, hr, h⟩ := h
    refine bw_cVi (As := []) (st := []) cv_BentWords_177 rfl rfl hr rfl rfl (Nat.le_of_ble_eq_true rfl) dX11_would_63 (fun v12 w13 hv => ?_)
    replace h := h v12 w13 hv
    clear hr
    refine bw_istore (i := 4) (L' := [some (.ref 0), some (.int a0), some (.int a1), some (.int a2), some (.int v12)]) dX11_would_66 (Nat.le_of_ble_eq_true rfl) rfl ?_
    refine bw_aload_n (i := 0) dX11_would_68 rfl rfl ?_
    refine bw_getr (r := 31) fg_BentWords_58 rfl rfl dX11_would_69 ?_
    refine bw_aload_n (i := 0) dX11_would_72 rfl rfl ?_
    refine bw_getr (r := 33) fg_BentWords_62 rfl rfl dX11_would_73 ?_
    refine bw_cVv (As := [.ref 33]) (st := []) (Q' := (fun w1 => (cw_l w13 32 (fun j => if j < 52 then (gw_l w13 34 j) else (gw_l w13 32 j))) = w1)) cv_BentWords_294 rfl rfl (fs_X7_copyFrom_sa (d := d + 3)   rfl) rfl rfl (Nat.le_of_ble_eq_true rfl) dX11_would_76 (fun w1 hv => ?_)
    subst hv
    refine bw_iload dX11_would_79 rfl ?_
    exact bw_ireturn dX11_would_81 rfl rfl ⟨_, rfl, h⟩
  · replace h := h.2 (c)
    refine bw_iconst (v := (-1)) dX11_would_24 (by decide) ?_
    exact bw_ireturn dX11_would_25 rfl rfl ⟨_, rfl, h⟩
theorem wfX11_act {E : bw_E} {d : Nat} {w : bw_W} {Q : Bool → bw_W → Prop} {sp : Nat} {a1 : Bool} (h_sp : bw_sh sp = (0, 8, 5)) (h : (∃ Q1 : Int32 → bw_W → Prop, bw_ri E (d + 4) mX11_refusalOf [.ref 0, .ref sp] w Q1 ∧ ∀ v2 w3, Q1 v2 w3 →
((v2 = (-1) → (∃ Q4 : Int32 → bw_W → Prop, bw_ri E (d + 4) mX8_cell [.ref sp] w3 Q4 ∧ ∀ v5 w6, Q4 v5 w6 →
(vp_in v5 52) ∧
(((vp_in ((gw_i w6 37 1) - (gw_i w6 37 1) / 40 * 40) 40))) ∧
(((vp_in ((gw_i w6 37 1) - (gw_i w6 37 1) / 40 * 40) 40))) ∧
(∃ Q10 : Int64 → bw_W → Prop, bw_rl E (d + 4) mX8_value [.ref sp] (sw_i (sw_l (sw_i w6 39 (((gw_i w6 37 1) - (gw_i w6 37 1) / 40 * 40).toNatClampNeg) v5) 40 (((gw_i w6 37 1) - (gw_i w6 37 1) / 40 * 40).toNatClampNeg) (gw_l w6 32 (v5.toNatClampNeg))) 37 4 (if 40 < ((gw_i w6 37 4) + 1) then 40 else ((gw_i w6 37 4) + 1))) Q10 ∧ ∀ v11 w12, Q10 v11 w12 →
(vp_in v5 52) ∧
(∃ Q14 : Int32 → bw_W → Prop, bw_ri E (d + 4) mX10_tellableBits [.ref 35] (sw_l w12 32 (v5.toNatClampNeg) v11) Q14 ∧ ∀ v15 w16, Q14 v15 w16 →
(((vp_in ((gw_i w16 37 1) - (gw_i w16 37 1) / 100 * 100) 100))) ∧
Q true (sw_i (sw_i w16 38 (((gw_i w16 37 1) - (gw_i w16 37 1) / 100 * 100).toNatClampNeg) (((((gw_i (sw_l w12 32 (v5.toNatClampNeg) v11) sp 0) * 10) + (gw_i (sw_l w12 32 (v5.toNatClampNeg) v11) sp 1)) * 10) + (vJ6_bitCount_0f7a4 v15))) 37 1 ((gw_i w16 37 1) + 1)))))) ∧ (¬ (v2 = (-1)) → ((a1 = false → Q false w3) ∧ (a1 = true → (vp_in v2 3) ∧
(vp_in v2 3) ∧
Q false (sw_i w3 47 (v2.toNatClampNeg) ((gw_i w3 47 (v2.toNatClampNeg)) + 1)))))))) : bw_rb E (d + 5) mX11_act [.ref 0, .ref sp, .int (bw_b a1)] w Q := by
  refine bw_enter rfl (Nat.le_of_ble_eq_true rfl) ?_
  refine bw_aload_n (i := 0) dX11_act_0 rfl rfl ?_
  refine bw_aload_n (i := 1) dX11_act_1 rfl rfl ?_
  obtain ⟨Q1, hr, h⟩ := h
  refine bw_cVi (As := [.ref sp]) (st := []) cv_BentWords_356 rfl rfl hr rfl rfl (Nat.le_of_ble_eq_true rfl) dX11_act_2 (fun v2 w3 hv => ?_)
  replace h := h v2 w3 hv
  clear hr
  refine bw_istore_n (i := 3) (L' := [some (.ref 0), some (.ref sp), some (.int (bw_b a1)), some (.int v2), none]) dX11_act_5 rfl (Nat.le_of_ble_eq_true rfl) rfl ?_
  refine bw_iload_n (i := 3) dX11_act_6 rfl rfl ?_
  refine bw_iconst (v := (-1)) dX11_act_7 (by decide) ?_
  refine bw_icmp_eq (tgt := 27) dX11_act_8 (by decide) (fun c => ?_) (fun c => ?_)
  · replace h := h.1 (c)
    refine bw_aload_n (i := 1) dX11_act_27 rfl rfl ?_
    obtain ⟨Q4, hr, h⟩ := h
    refine bw_cVi (As := []) (st := []) cv_BentWords_360 h_sp rfl hr rfl rfl (Nat.le_of_ble_eq_true rfl) dX11_act_28 (fun v5 w6 hv => ?_)
    replace h := h v5 w6 hv
    clear hr
    refine bw_istore (i := 4) (L' := [some (.ref 0), some (.ref sp), some (.int (bw_b a1)), some (.int v2), some (.int v5)]) dX11_act_31 (Nat.le_of_ble_eq_true rfl) rfl ?_
    refine bw_aload_n (i := 0) dX11_act_33 rfl rfl ?_
    refine bw_getr (r := 37) fg_BentWords_77 rfl rfl dX11_act_34 ?_
    refine bw_iload dX11_act_37 rfl ?_
    refine bw_aload_n (i := 0) dX11_act_39 rfl rfl ?_
    refine bw_getr (r := 31) fg_BentWords_58 rfl rfl dX11_act_40 ?_
    refine bw_getr (r := 32) fg_BentWords_170 rfl rfl dX11_act_43 ?_
    refine bw_iload dX11_act_46 rfl ?_
    obtain ⟨hi7, h⟩ := h
    refine bw_laload rfl hi7 dX11_act_48 ?_
    obtain ⟨hc8, h⟩ := h
    obtain ⟨hc9, h⟩ := h
    refine bw_cVv (As := [.int v5, .long (gw_l w6 32 (v5.toNatClampNeg))]) (st := []) (Q' := (fun w1 => (sw_i (sw_l (sw_i w6 39 (((gw_i w6 37 1) - (gw_i w6 37 1) / 40 * 40).toNatClampNeg) v5) 40 (((gw_i w6 37 1) - (gw_i w6 37 1) / 40 * 40).toNatClampNeg) (gw_l w6 32 (v5.toNatClampNeg))) 37 4 (if 40 < ((gw_i w6 37 4) + 1) then 40 else ((gw_i w6 37 4) + 1))) = w1)) cv_BentWords_366 rfl rfl (fs_X2_remember (d := d + 3) (a0 := v5) (a1 := (gw_l w6 32 (v5.toNatClampNeg))) hc8 hc9 rfl) rfl rfl (Nat.le_of_ble_eq_true rfl) dX11_act_49 (fun w1 hv => ?_)
    subst hv
    refine bw_aload_n (i := 0) dX11_act_52 rfl rfl ?_
    refine bw_getr (r := 31) fg_BentWords_58 rfl rfl dX11_act_53 ?_
    refine bw_getr (r := 32) fg_BentWords_170 rfl rfl dX11_act_56 ?_
    refine bw_iload dX11_act_59 rfl ?_
    refine bw_aload_n (i := 1) dX11_act_61 rfl rfl ?_
    obtain ⟨Q10, hr, h⟩ := h
    refine bw_cVl (As := []) (st := [.int v5, .ref 32]) cv_BentWords_363 h_sp rfl hr rfl rfl (Nat.le_of_ble_eq_true rfl) dX11_act_62 (fun v11 w12 hv => ?_)
    replace h := h v11 w12 hv
    clear hr
    obtain ⟨hi13, h⟩ := h
    refine bw_lastore rfl hi13 dX11_act_65 ?_
    refine bw_aload_n (i := 0) dX11_act_66 rfl rfl ?_
    refine bw_getr (r := 37) fg_BentWords_77 rfl rfl dX11_act_67 ?_
    refine bw_aload_n (i := 1) dX11_act_70 rfl rfl ?_
    refine bw_geti fg_BentWords_370 h_sp dX11_act_71 ?_
    refine bw_aload_n (i := 1) dX11_act_74 rfl rfl ?_
    refine bw_geti fg_BentWords_373 h_sp dX11_act_75 ?_
    refine bw_aload_n (i := 0) dX11_act_78 rfl rfl ?_
    refine bw_getr (r := 35) fg_BentWords_70 rfl rfl dX11_act_79 ?_
    obtain ⟨Q14, hr, h⟩ := h
    refine bw_cVi (As := []) (st := [.int (gw_i (sw_l w12 32 (v5.toNatClampNeg) v11) sp 1), .int (gw_i (sw_l w12 32 (v5.toNatClampNeg) v11) sp 0), .ref 37]) cv_BentWords_177 rfl rfl hr rfl rfl (Nat.le_of_ble_eq_true rfl) dX11_act_82 (fun v15 w16 hv => ?_)
    replace h := h v15 w16 hv
    clear hr
    refine bw_cSi (As := [.int v15]) (st := [.int (gw_i (sw_l w12 32 (v5.toNatClampNeg) v11) sp 1), .int (gw_i (sw_l w12 32 (v5.toNatClampNeg) v11) sp 0), .ref 37]) (Q' := (fun v w1 => (vJ6_bitCount_0f7a4 v15) = v ∧ w16 = w1)) cs_BentWords_376 (fs_J6_bitCount_0f7a4 (d := d + 4) (a0 := v15)  ⟨rfl, rfl⟩) rfl rfl (Nat.le_of_ble_eq_true rfl) dX11_act_85 (fun v w1 hv => ?_)
    obtain ⟨rfl, rfl⟩ := hv
    obtain ⟨hc17, h⟩ := h
    refine bw_cVv (As := [.int (gw_i (sw_l w12 32 (v5.toNatClampNeg) v11) sp 0), .int (gw_i (sw_l w12 32 (v5.toNatClampNeg) v11) sp 1), .int (vJ6_bitCount_0f7a4 v15)]) (st := []) (Q' := (fun w1 => (sw_i (sw_i w16 38 (((gw_i w16 37 1) - (gw_i w16 37 1) / 100 * 100).toNatClampNeg) (((((gw_i (sw_l w12 32 (v5.toNatClampNeg) v11) sp 0) * 10) + (gw_i (sw_l w12 32 (v5.toNatClampNeg) v11) sp 1)) * 10) + (vJ6_bitCount_0f7a4 v15))) 37 1 ((gw_i w16 37 1) + 1)) = w1)) cv_BentWords_381 rfl rfl (fs_X2_addRow (d := d + 4) (a0 := (gw_i (sw_l w12 32 (v5.toNatClampNeg) v11) sp 0)) (a1 := (gw_i (sw_l w12 32 (v5.toNatClampNeg) v11) sp 1)) (a2 := (vJ6_bitCount_0f7a4 v15)) hc17 rfl) rfl rfl (Nat.le_of_ble_eq_true rfl) dX11_act_88 (fun w1 hv => ?_)
    subst hv
    refine bw_iconst (v := 1) dX11_act_91 (by decide) ?_
    exact bw_ireturn dX11_act_92 rfl (bw_nb true) ⟨true, rfl, h⟩
  · replace h := h.2 (c)
    refine bw_iload_n (i := 2) dX11_act_11 rfl rfl ?_
    refine bw_ifb_eq (tgt := 25) dX11_act_12 (by decide) (fun c => ?_) (fun c => ?_)
    · replace h := h.1 (c)
      refine bw_iconst (v := 0) dX11_act_25 (by decide) ?_
      exact bw_ireturn dX11_act_26 rfl (bw_nb false) ⟨false, rfl, h⟩
    · replace h := h.2 (c)
      refine bw_aload_n (i := 0) dX11_act_15 rfl rfl ?_
      refine bw_getr (r := 47) fg_BentWords_87 rfl rfl dX11_act_16 ?_
      refine bw_iload_n (i := 3) dX11_act_19 rfl rfl ?_
      refine bw_dup2 dX11_act_20 rfl rfl ?_
      obtain ⟨hi18, h⟩ := h
      refine bw_iaload rfl hi18 dX11_act_21 ?_
      refine bw_iconst (v := 1) dX11_act_22 (by decide) ?_
      refine bw_iadd dX11_act_23 ?_
      obtain ⟨hi19, h⟩ := h
      refine bw_iastore rfl hi19 dX11_act_24 ?_
      refine bw_iconst (v := 0) dX11_act_25 (by decide) ?_
      exact bw_ireturn dX11_act_26 rfl (bw_nb false) ⟨false, rfl, h⟩
theorem wfX11_tellable {E : bw_E} {d : Nat} {w : bw_W} {Q : Int32 → bw_W → Prop}   (h : (∃ Q1 : Int32 → bw_W → Prop, bw_ri E (d + 4) mX10_tellableBits [.ref 35] w Q1 ∧ ∀ v2 w3, Q1 v2 w3 →
Q (vJ6_bitCount_0f7a4 v2) w3)) : bw_ri E (d + 5) mX11_tellable [.ref 0] w Q := by
  refine bw_enter rfl (Nat.le_of_ble_eq_true rfl) ?_
  refine bw_aload_n (i := 0) dX11_tellable_0 rfl rfl ?_
  refine bw_getr (r := 35) fg_BentWords_70 rfl rfl dX11_tellable_1 ?_
  obtain ⟨Q1, hr, h⟩ := h
  refine bw_cVi (As := []) (st := []) cv_BentWords_177 rfl rfl hr rfl rfl (Nat.le_of_ble_eq_true rfl) dX11_tellable_4 (fun v2 w3 hv => ?_)
  replace h := h v2 w3 hv
  clear hr
  refine bw_cSi (As := [.int v2]) (st := []) (Q' := (fun v w1 => (vJ6_bitCount_0f7a4 v2) = v ∧ w3 = w1)) cs_BentWords_376 (fs_J6_bitCount_0f7a4 (d := d + 4) (a0 := v2)  ⟨rfl, rfl⟩) rfl rfl (Nat.le_of_ble_eq_true rfl) dX11_tellable_7 (fun v w1 hv => ?_)
  obtain ⟨rfl, rfl⟩ := hv
  exact bw_ireturn dX11_tellable_10 rfl rfl ⟨_, rfl, h⟩
theorem wfX12_readNoun_70 {E : bw_E} {d : Nat} {w : bw_W} {Q : bw_W → Prop} {l1 : Int32} {l2 : Int64} {l4 : Int32} {l5 : Int32}  (h : ((8 ≤ l5 → Q (sw_i w 50 20 ((gw_i w 50 20) + 1))) ∧ (¬ (8 ≤ l5) → (vp_in ((8 * (gw_i w 50 20)) + l5) 48) ∧
bw_G E (d + 5) mX12_readNoun 70 [some (.ref 50), some (.int l1), some (.long l2), none, some (.int l4), some (.int (l5 + 1))] [] (sw_l w 54 (((8 * (gw_i w 50 20)) + l5).toNatClampNeg) 0) (bw_qv Q)))) : bw_G E (d + 5) mX12_readNoun 70 [some (.ref 50), some (.int l1), some (.long l2), none, some (.int l4), some (.int l5)] [] w (bw_qv Q) := by
  refine bw_iload dX12_readNoun_70 rfl ?_
  refine bw_bipush (v := 8) dX12_readNoun_72 (by decide) ?_
  refine bw_icmp_ge (tgt := 99) dX12_readNoun_74 (by decide) (fun c => ?_) (fun c => ?_)
  · replace h := h.1 (c)
    refine bw_aload_n (i := 0) dX12_readNoun_99 rfl rfl ?_
    refine bw_dup dX12_readNoun_100 rfl ?_
    refine bw_geti fg_BentWordsModel_174 rfl dX12_readNoun_101 ?_
    refine bw_iconst (v := 1) dX12_readNoun_104 (by decide) ?_
    refine bw_iadd dX12_readNoun_105 ?_
    refine bw_puti fp_BentWordsModel_174 rfl rfl rfl dX12_readNoun_106 ?_
    exact bw_return dX12_readNoun_109 rfl ⟨rfl, h⟩
  · replace h := h.2 (c)
    refine bw_aload_n (i := 0) dX12_readNoun_77 rfl rfl ?_
    refine bw_getr (r := 54) fg_BentWordsModel_20 rfl rfl dX12_readNoun_78 ?_
    refine bw_bipush (v := 8) dX12_readNoun_81 (by decide) ?_
    refine bw_aload_n (i := 0) dX12_readNoun_83 rfl rfl ?_
    refine bw_geti fg_BentWordsModel_174 rfl dX12_readNoun_84 ?_
    refine bw_imul dX12_readNoun_87 ?_
    refine bw_iload dX12_readNoun_88 rfl ?_
    refine bw_iadd dX12_readNoun_90 ?_
    refine bw_lconst (v := 0) dX12_readNoun_91 rfl ?_
    obtain ⟨hi1, h⟩ := h
    refine bw_lastore rfl hi1 dX12_readNoun_92 ?_
    refine bw_iinc (i := 5) (x := l5) (v := (l5 + 1)) (L' := [some (.ref 50), some (.int l1), some (.long l2), none, some (.int l4), some (.int (l5 + 1))]) dX12_readNoun_93 rfl rfl (Nat.le_of_ble_eq_true rfl) rfl ?_
    refine bw_goto (tgt := 70) dX12_readNoun_96 (by decide) ?_
    exact h
theorem wfX12_readNoun {E : bw_E} {d : Nat} {w : bw_W} {Q : bw_W → Prop} {a0 : Int32}  (h : ((¬ (gw_i w 50 20) = 6 → (∃ Q1 : Int32 → bw_W → Prop, bw_ri E (d + 4) mX12_nounHere [.ref 50] w Q1 ∧ ∀ v2 w3, Q1 v2 w3 →
((v2 = (-1) → (∃ Q4 : Int64 → bw_W → Prop, bw_rl E (d + 4) mX12_anyWord [.ref 50] w3 Q4 ∧ ∀ v5 w6, Q4 v5 w6 →
(∃ Q7 : Int32 → bw_W → Prop, bw_ri E (d + 4) mX12_digit [.ref 50, .int 2] w6 Q7 ∧ ∀ v8 w9, Q7 v8 w9 →
((¬ (gw_i w9 50 10) = (-1) → Q w9) ∧ ((gw_i w9 50 10) = (-1) → (vp_in (gw_i w9 50 20) 6) ∧
(vp_in (gw_i w9 50 20) 6) ∧
bw_G E (d + 5) mX12_readNoun 70 [some (.ref 50), some (.int a0), some (.long v5), none, some (.int v8), some (.int 0)] [] (sw_i (sw_l w9 52 ((gw_i w9 50 20).toNatClampNeg) v5) 53 ((gw_i w9 50 20).toNatClampNeg) v8) (bw_qv Q)))))) ∧ (¬ (v2 = (-1)) → (∃ Q12 : Int64 → bw_W → Prop, bw_rl E (d + 4) mX12_anyWord [.ref 50] (sw_i w3 50 10 (if ¬ (gw_i w3 50 10) = (-1) then (gw_i w3 50 10) else (gw_i w3 50 5))) Q12 ∧ ∀ v13 w14, Q12 v13 w14 →
(∃ Q15 : Int32 → bw_W → Prop, bw_ri E (d + 4) mX12_digit [.ref 50, .int 2] w14 Q15 ∧ ∀ v16 w17, Q15 v16 w17 →
((¬ (gw_i w17 50 10) = (-1) → Q w17) ∧ ((gw_i w17 50 10) = (-1) → (vp_in (gw_i w17 50 20) 6) ∧
(vp_in (gw_i w17 50 20) 6) ∧
bw_G E (d + 5) mX12_readNoun 70 [some (.ref 50), some (.int a0), some (.long v13), none, some (.int v16), some (.int 0)] [] (sw_i (sw_l w17 52 ((gw_i w17 50 20).toNatClampNeg) v13) 53 ((gw_i w17 50 20).toNatClampNeg) v16) (bw_qv Q))))))))) ∧ ((gw_i w 50 20) = 6 → (∃ Q20 : Int32 → bw_W → Prop, bw_ri E (d + 4) mX12_nounHere [.ref 50] (sw_i w 50 10 (if ¬ (gw_i w 50 10) = (-1) then (gw_i w 50 10) else a0)) Q20 ∧ ∀ v21 w22, Q20 v21 w22 →
((v21 = (-1) → (∃ Q23 : Int64 → bw_W → Prop, bw_rl E (d + 4) mX12_anyWord [.ref 50] w22 Q23 ∧ ∀ v24 w25, Q23 v24 w25 →
(∃ Q26 : Int32 → bw_W → Prop, bw_ri E (d + 4) mX12_digit [.ref 50, .int 2] w25 Q26 ∧ ∀ v27 w28, Q26 v27 w28 →
((¬ (gw_i w28 50 10) = (-1) → Q w28) ∧ ((gw_i w28 50 10) = (-1) → (vp_in (gw_i w28 50 20) 6) ∧
(vp_in (gw_i w28 50 20) 6) ∧
bw_G E (d + 5) mX12_readNoun 70 [some (.ref 50), some (.int a0), some (.long v24), none, some (.int v27), some (.int 0)] [] (sw_i (sw_l w28 52 ((gw_i w28 50 20).toNatClampNeg) v24) 53 ((gw_i w28 50 20).toNatClampNeg) v27) (bw_qv Q)))))) ∧ (¬ (v21 = (-1)) → (∃ Q31 : Int64 → bw_W → Prop, bw_rl E (d + 4) mX12_anyWord [.ref 50] (sw_i w22 50 10 (if ¬ (gw_i w22 50 10) = (-1) then (gw_i w22 50 10) else (gw_i w22 50 5))) Q31 ∧ ∀ v32 w33, Q31 v32 w33 →
(∃ Q34 : Int32 → bw_W → Prop, bw_ri E (d + 4) mX12_digit [.ref 50, .int 2] w33 Q34 ∧ ∀ v35 w36, Q34 v35 w36 →
((¬ (gw_i w36 50 10) = (-1) → Q w36) ∧ ((gw_i w36 50 10) = (-1) → (vp_in (gw_i w36 50 20) 6) ∧
(vp_in (gw_i w36 50 20) 6) ∧
bw_G E (d + 5) mX12_readNoun 70 [some (.ref 50), some (.int a0), some (.long v32), none, some (.int v35), some (.int 0)] [] (sw_i (sw_l w36 52 ((gw_i w36 50 20).toNatClampNeg) v32) 53 ((gw_i w36 50 20).toNatClampNeg) v35) (bw_qv Q))))))))))) : bw_rv E (d + 5) mX12_readNoun [.ref 50, .int a0] w Q := by
  refine bw_enter rfl (Nat.le_of_ble_eq_true rfl) ?_
  refine bw_aload_n (i := 0) dX12_readNoun_0 rfl rfl ?_
  refine bw_geti fg_BentWordsModel_174 rfl dX12_readNoun_1 ?_
  refine bw_bipush (v := 6) dX12_readNoun_4 (by decide) ?_
  refine bw_icmp_ne (tgt := 14) dX12_readNoun_6 (by decide) (fun c => ?_) (fun c => ?_)
  · replace h := h.1 (c)
    refine bw_aload_n (i := 0) dX12_readNoun_14 rfl rfl ?_
    obtain ⟨Q1, hr, h⟩ := h
    refine bw_cVi (As := []) (st := []) cv_BentWordsModel_184 rfl rfl hr rfl rfl (Nat.le_of_ble_eq_true rfl) dX12_readNoun_15 (fun v2 w3 hv => ?_)
    replace h := h v2 w3 hv
    clear hr
    refine bw_iconst (v := (-1)) dX12_readNoun_18 (by decide) ?_
    refine bw_icmp_eq (tgt := 26) dX12_readNoun_19 (by decide) (fun c => ?_) (fun c => ?_)
    · replace h := h.1 (c)
      refine bw_aload_n (i := 0) dX12_readNoun_26 rfl rfl ?_
      obtain ⟨Q4, hr, h⟩ := h
      refine bw_cVl (As := []) (st := []) cv_BentWordsModel_187 rfl rfl hr rfl rfl (Nat.le_of_ble_eq_true rfl) dX12_readNoun_27 (fun v5 w6 hv => ?_)
      replace h := h v5 w6 hv
      clear hr
      refine bw_lstore_n (i := 2) (L' := [some (.ref 50), some (.int a0), some (.long v5), none, none, none]) dX12_readNoun_30 rfl (Nat.le_of_ble_eq_true rfl) rfl ?_
      refine bw_aload_n (i := 0) dX12_readNoun_31 rfl rfl ?_
      refine bw_iconst (v := 2) dX12_readNoun_32 (by decide) ?_
      obtain ⟨Q7, hr, h⟩ := h
      refine bw_cVi (As := [.int 2]) (st := []) cv_BentWordsModel_191 rfl rfl hr rfl rfl (Nat.le_of_ble_eq_true rfl) dX12_readNoun_33 (fun v8 w9 hv => ?_)
      replace h := h v8 w9 hv
      clear hr
      refine bw_istore (i := 4) (L' := [some (.ref 50), some (.int a0), some (.long v5), none, some (.int v8), none]) dX12_readNoun_36 (Nat.le_of_ble_eq_true rfl) rfl ?_
      refine bw_aload_n (i := 0) dX12_readNoun_38 rfl rfl ?_
      refine bw_geti fg_BentWordsModel_150 rfl dX12_readNoun_39 ?_
      refine bw_iconst (v := (-1)) dX12_readNoun_42 (by decide) ?_
      refine bw_icmp_ne (tgt := 109) dX12_readNoun_43 (by decide) (fun c => ?_) (fun c => ?_)
      · replace h := h.1 (c)
        exact bw_return dX12_readNoun_109 rfl ⟨rfl, h⟩
      · replace h := h.2 (c)
        refine bw_aload_n (i := 0) dX12_readNoun_46 rfl rfl ?_
        refine bw_getr (r := 52) fg_BentWordsModel_13 rfl rfl dX12_readNoun_47 ?_
        refine bw_aload_n (i := 0) dX12_readNoun_50 rfl rfl ?_
        refine bw_geti fg_BentWordsModel_174 rfl dX12_readNoun_51 ?_
        refine bw_lload_n (i := 2) dX12_readNoun_54 rfl rfl ?_
        obtain ⟨hi10, h⟩ := h
        refine bw_lastore rfl hi10 dX12_readNoun_55 ?_
        refine bw_aload_n (i := 0) dX12_readNoun_56 rfl rfl ?_
        refine bw_getr (r := 53) fg_BentWordsModel_17 rfl rfl dX12_readNoun_57 ?_
        refine bw_aload_n (i := 0) dX12_readNoun_60 rfl rfl ?_
        refine bw_geti fg_BentWordsModel_174 rfl dX12_readNoun_61 ?_
        rw [show gw_i (sw_l w9 52 ((gw_i w9 50 20).toNatClampNeg) v5) 50 20 = (gw_i w9 50 20) from rfl]
        refine bw_iload dX12_readNoun_64 rfl ?_
        obtain ⟨hi11, h⟩ := h
        refine bw_iastore rfl hi11 dX12_readNoun_66 ?_
        refine bw_iconst (v := 0) dX12_readNoun_67 (by decide) ?_
        refine bw_istore (i := 5) (L' := [some (.ref 50), some (.int a0), some (.long v5), none, some (.int v8), some (.int 0)]) dX12_readNoun_68 (Nat.le_of_ble_eq_true rfl) rfl ?_
        exact h
    · replace h := h.2 (c)
      refine bw_aload_n (i := 0) dX12_readNoun_22 rfl rfl ?_
      refine bw_cVv (As := []) (st := []) (Q' := (fun w1 => (sw_i w3 50 10 (if ¬ (gw_i w3 50 10) = (-1) then (gw_i w3 50 10) else (gw_i w3 50 5))) = w1)) cv_BentWordsModel_167 rfl rfl (fs_X12_bad (d := d + 3)   rfl) rfl rfl (Nat.le_of_ble_eq_true rfl) dX12_readNoun_23 (fun w1 hv => ?_)
      subst hv
      refine bw_aload_n (i := 0) dX12_readNoun_26 rfl rfl ?_
      obtain ⟨Q12, hr, h⟩ := h
      refine bw_cVl (As := []) (st := []) cv_BentWordsModel_187 rfl rfl hr rfl rfl (Nat.le_of_ble_eq_true rfl) dX12_readNoun_27 (fun v13 w14 hv => ?_)
      replace h := h v13 w14 hv
      clear hr
      refine bw_lstore_n (i := 2) (L' := [some (.ref 50), some (.int a0), some (.long v13), none, none, none]) dX12_readNoun_30 rfl (Nat.le_of_ble_eq_true rfl) rfl ?_
      refine bw_aload_n (i := 0) dX12_readNoun_31 rfl rfl ?_
      refine bw_iconst (v := 2) dX12_readNoun_32 (by decide) ?_
      obtain ⟨Q15, hr, h⟩ := h
      refine bw_cVi (As := [.int 2]) (st := []) cv_BentWordsModel_191 rfl rfl hr rfl rfl (Nat.le_of_ble_eq_true rfl) dX12_readNoun_33 (fun v16 w17 hv => ?_)
      replace h := h v16 w17 hv
      clear hr
      refine bw_istore (i := 4) (L' := [some (.ref 50), some (.int a0), some (.long v13), none, some (.int v16), none]) dX12_readNoun_36 (Nat.le_of_ble_eq_true rfl) rfl ?_
      refine bw_aload_n (i := 0) dX12_readNoun_38 rfl rfl ?_
      refine bw_geti fg_BentWordsModel_150 rfl dX12_readNoun_39 ?_
      refine bw_iconst (v := (-1)) dX12_readNoun_42 (by decide) ?_
      refine bw_icmp_ne (tgt := 109) dX12_readNoun_43 (by decide) (fun c => ?_) (fun c => ?_)
      · replace h := h.1 (c)
        exact bw_return dX12_readNoun_109 rfl ⟨rfl, h⟩
      · replace h := h.2 (c)
        refine bw_aload_n (i := 0) dX12_readNoun_46 rfl rfl ?_
        refine bw_getr (r := 52) fg_BentWordsModel_13 rfl rfl dX12_readNoun_47 ?_
        refine bw_aload_n (i := 0) dX12_readNoun_50 rfl rfl ?_
        refine bw_geti fg_BentWordsModel_174 rfl dX12_readNoun_51 ?_
        refine bw_lload_n (i := 2) dX12_readNoun_54 rfl rfl ?_
        obtain ⟨hi18, h⟩ := h
        refine bw_lastore rfl hi18 dX12_readNoun_55 ?_
        refine bw_aload_n (i := 0) dX12_readNoun_56 rfl rfl ?_
        refine bw_getr (r := 53) fg_BentWordsModel_17 rfl rfl dX12_readNoun_57 ?_
        refine bw_aload_n (i := 0) dX12_readNoun_60 rfl rfl ?_
        refine bw_geti fg_BentWordsModel_174 rfl dX12_readNoun_61 ?_
        rw [show gw_i (sw_l w17 52 ((gw_i w17 50 20).toNatClampNeg) v13) 50 20 = (gw_i w17 50 20) from rfl]
        refine bw_iload dX12_readNoun_64 rfl ?_
        obtain ⟨hi19, h⟩ := h
        refine bw_iastore rfl hi19 dX12_readNoun_66 ?_
        refine bw_iconst (v := 0) dX12_readNoun_67 (by decide) ?_
        refine bw_istore (i := 5) (L' := [some (.ref 50), some (.int a0), some (.long v13), none, some (.int v16), some (.int 0)]) dX12_readNoun_68 (Nat.le_of_ble_eq_true rfl) rfl ?_
        exact h
  · replace h := h.2 (c)
    refine bw_aload_n (i := 0) dX12_readNoun_9 rfl rfl ?_
    refine bw_iload_n (i := 1) dX12_readNoun_10 rfl rfl ?_
    refine bw_cVv (As := [.int a0]) (st := []) (Q' := (fun w1 => (sw_i w 50 10 (if ¬ (gw_i w 50 10) = (-1) then (gw_i w 50 10) else a0)) = w1)) cv_BentWordsModel_153 rfl rfl (fs_X12_badAt (d := d + 4) (a0 := a0)  rfl) rfl rfl (Nat.le_of_ble_eq_true rfl) dX12_readNoun_11 (fun w1 hv => ?_)
    subst hv
    refine bw_aload_n (i := 0) dX12_readNoun_14 rfl rfl ?_
    obtain ⟨Q20, hr, h⟩ := h
    refine bw_cVi (As := []) (st := []) cv_BentWordsModel_184 rfl rfl hr rfl rfl (Nat.le_of_ble_eq_true rfl) dX12_readNoun_15 (fun v21 w22 hv => ?_)
    replace h := h v21 w22 hv
    clear hr
    refine bw_iconst (v := (-1)) dX12_readNoun_18 (by decide) ?_
    refine bw_icmp_eq (tgt := 26) dX12_readNoun_19 (by decide) (fun c => ?_) (fun c => ?_)
    · replace h := h.1 (c)
      refine bw_aload_n (i := 0) dX12_readNoun_26 rfl rfl ?_
      obtain ⟨Q23, hr, h⟩ := h
      refine bw_cVl (As := []) (st := []) cv_BentWordsModel_187 rfl rfl hr rfl rfl (Nat.le_of_ble_eq_true rfl) dX12_readNoun_27 (fun v24 w25 hv => ?_)
      replace h := h v24 w25 hv
      clear hr
      refine bw_lstore_n (i := 2) (L' := [some (.ref 50), some (.int a0), some (.long v24), none, none, none]) dX12_readNoun_30 rfl (Nat.le_of_ble_eq_true rfl) rfl ?_
      refine bw_aload_n (i := 0) dX12_readNoun_31 rfl rfl ?_
      refine bw_iconst (v := 2) dX12_readNoun_32 (by decide) ?_
      obtain ⟨Q26, hr, h⟩ := h
      refine bw_cVi (As := [.int 2]) (st := []) cv_BentWordsModel_191 rfl rfl hr rfl rfl (Nat.le_of_ble_eq_true rfl) dX12_readNoun_33 (fun v27 w28 hv => ?_)
      replace h := h v27 w28 hv
      clear hr
      refine bw_istore (i := 4) (L' := [some (.ref 50), some (.int a0), some (.long v24), none, some (.int v27), none]) dX12_readNoun_36 (Nat.le_of_ble_eq_true rfl) rfl ?_
      refine bw_aload_n (i := 0) dX12_readNoun_38 rfl rfl ?_
      refine bw_geti fg_BentWordsModel_150 rfl dX12_readNoun_39 ?_
      refine bw_iconst (v := (-1)) dX12_readNoun_42 (by decide) ?_
      refine bw_icmp_ne (tgt := 109) dX12_readNoun_43 (by decide) (fun c => ?_) (fun c => ?_)
      · replace h := h.1 (c)
        exact bw_return dX12_readNoun_109 rfl ⟨rfl, h⟩
      · replace h := h.2 (c)
        refine bw_aload_n (i := 0) dX12_readNoun_46 rfl rfl ?_
        refine bw_getr (r := 52) fg_BentWordsModel_13 rfl rfl dX12_readNoun_47 ?_
        refine bw_aload_n (i := 0) dX12_readNoun_50 rfl rfl ?_
        refine bw_geti fg_BentWordsModel_174 rfl dX12_readNoun_51 ?_
        refine bw_lload_n (i := 2) dX12_readNoun_54 rfl rfl ?_
        obtain ⟨hi29, h⟩ := h
        refine bw_lastore rfl hi29 dX12_readNoun_55 ?_
        refine bw_aload_n (i := 0) dX12_readNoun_56 rfl rfl ?_
        refine bw_getr (r := 53) fg_BentWordsModel_17 rfl rfl dX12_readNoun_57 ?_
        refine bw_aload_n (i := 0) dX12_readNoun_60 rfl rfl ?_
        refine bw_geti fg_BentWordsModel_174 rfl dX12_readNoun_61 ?_
        rw [show gw_i (sw_l w28 52 ((gw_i w28 50 20).toNatClampNeg) v24) 50 20 = (gw_i w28 50 20) from rfl]
        refine bw_iload dX12_readNoun_64 rfl ?_
        obtain ⟨hi30, h⟩ := h
        refine bw_iastore rfl hi30 dX12_readNoun_66 ?_
        refine bw_iconst (v := 0) dX12_readNoun_67 (by decide) ?_
        refine bw_istore (i := 5) (L' := [some (.ref 50), some (.int a0), some (.long v24), none, some (.int v27), some (.int 0)]) dX12_readNoun_68 (Nat.le_of_ble_eq_true rfl) rfl ?_
        exact h
    · replace h := h.2 (c)
      refine bw_aload_n (i := 0) dX12_readNoun_22 rfl rfl ?_
      refine bw_cVv (As := []) (st := []) (Q' := (fun w1 => (sw_i w22 50 10 (if ¬ (gw_i w22 50 10) = (-1) then (gw_i w22 50 10) else (gw_i w22 50 5))) = w1)) cv_BentWordsModel_167 rfl rfl (fs_X12_bad (d := d + 3)   rfl) rfl rfl (Nat.le_of_ble_eq_true rfl) dX12_readNoun_23 (fun w1 hv => ?_)
      subst hv
      refine bw_aload_n (i := 0) dX12_readNoun_26 rfl rfl ?_
      obtain ⟨Q31, hr, h⟩ := h
      refine bw_cVl (As := []) (st := []) cv_BentWordsModel_187 rfl rfl hr rfl rfl (Nat.le_of_ble_eq_true rfl) dX12_readNoun_27 (fun v32 w33 hv => ?_)
      replace h := h v32 w33 hv
      clear hr
      refine bw_lstore_n (i := 2) (L' := [some (.ref 50), some (.int a0), some (.long v32), none, none, none]) dX12_readNoun_30 rfl (Nat.le_of_ble_eq_true rfl) rfl ?_
      refine bw_aload_n (i := 0) dX12_readNoun_31 rfl rfl ?_
      refine bw_iconst (v := 2) dX12_readNoun_32 (by decide) ?_
      obtain ⟨Q34, hr, h⟩ := h
      refine bw_cVi (As := [.int 2]) (st := []) cv_BentWordsModel_191 rfl rfl hr rfl rfl (Nat.le_of_ble_eq_true rfl) dX12_readNoun_33 (fun v35 w36 hv => ?_)
      replace h := h v35 w36 hv
      clear hr
      refine bw_istore (i := 4) (L' := [some (.ref 50), some (.int a0), some (.long v32), none, some (.int v35), none]) dX12_readNoun_36 (Nat.le_of_ble_eq_true rfl) rfl ?_
      refine bw_aload_n (i := 0) dX12_readNoun_38 rfl rfl ?_
      refine bw_geti fg_BentWordsModel_150 rfl dX12_readNoun_39 ?_
      refine bw_iconst (v := (-1)) dX12_readNoun_42 (by decide) ?_
      refine bw_icmp_ne (tgt := 109) dX12_readNoun_43 (by decide) (fun c => ?_) (fun c => ?_)
      · replace h := h.1 (c)
        exact bw_return dX12_readNoun_109 rfl ⟨rfl, h⟩
      · replace h := h.2 (c)
        refine bw_aload_n (i := 0) dX12_readNoun_46 rfl rfl ?_
        refine bw_getr (r := 52) fg_BentWordsModel_13 rfl rfl dX12_readNoun_47 ?_
        refine bw_aload_n (i := 0) dX12_readNoun_50 rfl rfl ?_
        refine bw_geti fg_BentWordsModel_174 rfl dX12_readNoun_51 ?_
        refine bw_lload_n (i := 2) dX12_readNoun_54 rfl rfl ?_
        obtain ⟨hi37, h⟩ := h
        refine bw_lastore rfl hi37 dX12_readNoun_55 ?_
        refine bw_aload_n (i := 0) dX12_readNoun_56 rfl rfl ?_
        refine bw_getr (r := 53) fg_BentWordsModel_17 rfl rfl dX12_readNoun_57 ?_
        refine bw_aload_n (i := 0) dX12_readNoun_60 rfl rfl ?_
        refine bw_geti fg_BentWordsModel_174 rfl dX12_readNoun_61 ?_
        rw [show gw_i (sw_l w36 52 ((gw_i w36 50 20).toNatClampNeg) v32) 50 20 = (gw_i w36 50 20) from rfl]
        refine bw_iload dX12_readNoun_64 rfl ?_
        obtain ⟨hi38, h⟩ := h
        refine bw_iastore rfl hi38 dX12_readNoun_66 ?_
        refine bw_iconst (v := 0) dX12_readNoun_67 (by decide) ?_
        refine bw_istore (i := 5) (L' := [some (.ref 50), some (.int a0), some (.long v32), none, some (.int v35), some (.int 0)]) dX12_readNoun_68 (Nat.le_of_ble_eq_true rfl) rfl ?_
        exact h
theorem wfX12_readsForm {E : bw_E} {d : Nat} {w : bw_W} {Q : bw_W → Prop} {a0 : Int32}  (h : (∃ Q1 : Int32 → bw_W → Prop, bw_ri E (d + 4) mX12_nounHere [.ref 50] w Q1 ∧ ∀ v2 w3, Q1 v2 w3 →
((¬ v2 = (-1) → (∃ Q4 : bw_W → Prop, bw_rv E (d + 4) mX12_next [.ref 50] w3 Q4 ∧ ∀ w6, Q4 w6 →
(∃ Q7 : Int32 → bw_W → Prop, bw_ri E (d + 4) mX12_digit [.ref 50, .int 3] w6 Q7 ∧ ∀ v8 w9, Q7 v8 w9 →
(∃ Q10 : Int32 → bw_W → Prop, bw_ri E (d + 4) mX12_digit [.ref 50, .int 1] w9 Q10 ∧ ∀ v11 w12, Q10 v11 w12 →
((¬ (gw_i w12 50 10) = (-1) → (∃ Q13 : Int64 → bw_W → Prop, bw_rl E (d + 4) mX12_anyWord [.ref 50] w12 Q13 ∧ ∀ v14 w15, Q13 v14 w15 →
((¬ (gw_i w15 50 10) = (-1) → Q w15) ∧ ((gw_i w15 50 10) = (-1) → (vp_in ((8 * v2) + ((2 * v8) + v11)) 48) ∧
Q (sw_l w15 54 (((8 * v2) + ((2 * v8) + v11)).toNatClampNeg) v14))))) ∧ ((gw_i w12 50 10) = (-1) → (vp_in ((8 * v2) + ((2 * v8) + v11)) 48) ∧
(((gw_l w12 54 (((8 * v2) + ((2 * v8) + v11)).toNatClampNeg)) = 0 → (∃ Q18 : Int64 → bw_W → Prop, bw_rl E (d + 4) mX12_anyWord [.ref 50] w12 Q18 ∧ ∀ v19 w20, Q18 v19 w20 →
((¬ (gw_i w20 50 10) = (-1) → Q w20) ∧ ((gw_i w20 50 10) = (-1) → (vp_in ((8 * v2) + ((2 * v8) + v11)) 48) ∧
Q (sw_l w20 54 (((8 * v2) + ((2 * v8) + v11)).toNatClampNeg) v19))))) ∧ (¬ (gw_l w12 54 (((8 * v2) + ((2 * v8) + v11)).toNatClampNeg)) = 0 → (∃ Q22 : Int64 → bw_W → Prop, bw_rl E (d + 4) mX12_anyWord [.ref 50] (sw_i w12 50 10 (if ¬ (gw_i w12 50 10) = (-1) then (gw_i w12 50 10) else a0)) Q22 ∧ ∀ v23 w24, Q22 v23 w24 →
((¬ (gw_i w24 50 10) = (-1) → Q w24) ∧ ((gw_i w24 50 10) = (-1) → (vp_in ((8 * v2) + ((2 * v8) + v11)) 48) ∧
Q (sw_l w24 54 (((8 * v2) + ((2 * v8) + v11)).toNatClampNeg) v23)))))))))))) ∧ (v2 = (-1) → Q (sw_i w3 50 10 (if ¬ (gw_i w3 50 10) = (-1) then (gw_i w3 50 10) else (gw_i w3 50 5))))))) : bw_rv E (d + 5) mX12_readsForm [.ref 50, .int a0] w Q := by
  refine bw_enter rfl (Nat.le_of_ble_eq_true rfl) ?_
  refine bw_aload_n (i := 0) dX12_readsForm_0 rfl rfl ?_
  obtain ⟨Q1, hr, h⟩ := h
  refine bw_cVi (As := []) (st := []) cv_BentWordsModel_184 rfl rfl hr rfl rfl (Nat.le_of_ble_eq_true rfl) dX12_readsForm_1 (fun v2 w3 hv => ?_)
  replace h := h v2 w3 hv
  clear hr
  refine bw_istore_n (i := 2) (L' := [some (.ref 50), some (.int a0), some (.int v2), none, none, none, none, none]) dX12_readsForm_4 rfl (Nat.le_of_ble_eq_true rfl) rfl ?_
  refine bw_iload_n (i := 2) dX12_readsForm_5 rfl rfl ?_
  refine bw_iconst (v := (-1)) dX12_readsForm_6 (by decide) ?_
  refine bw_icmp_ne (tgt := 15) dX12_readsForm_7 (by decide) (fun c => ?_) (fun c => ?_)
  · replace h := h.1 (c)
    refine bw_aload_n (i := 0) dX12_readsForm_15 rfl rfl ?_
    obtain ⟨Q4, hr, h⟩ := h
    refine bw_cVv (As := []) (st := []) cv_BentWordsModel_160 rfl rfl hr rfl rfl (Nat.le_of_ble_eq_true rfl) dX12_readsForm_16 (fun w6 hv => ?_)
    replace h := h w6 hv
    clear hr
    refine bw_aload_n (i := 0) dX12_readsForm_19 rfl rfl ?_
    refine bw_iconst (v := 3) dX12_readsForm_20 (by decide) ?_
    obtain ⟨Q7, hr, h⟩ := h
    refine bw_cVi (As := [.int 3]) (st := []) cv_BentWordsModel_191 rfl rfl hr rfl rfl (Nat.le_of_ble_eq_true rfl) dX12_readsForm_21 (fun v8 w9 hv => ?_)
    replace h := h v8 w9 hv
    clear hr
    refine bw_istore_n (i := 3) (L' := [some (.ref 50), some (.int a0), some (.int v2), some (.int v8), none, none, none, none]) dX12_readsForm_24 rfl (Nat.le_of_ble_eq_true rfl) rfl ?_
    refine bw_aload_n (i := 0) dX12_readsForm_25 rfl rfl ?_
    refine bw_iconst (v := 1) dX12_readsForm_26 (by decide) ?_
    obtain ⟨Q10, hr, h⟩ := h
    refine bw_cVi (As := [.int 1]) (st := []) cv_BentWordsModel_191 rfl rfl hr rfl rfl (Nat.le_of_ble_eq_true rfl) dX12_readsForm_27 (fun v11 w12 hv => ?_)
    replace h := h v11 w12 hv
    clear hr
    refine bw_istore (i := 4) (L' := [some (.ref 50), some (.int a0), some (.int v2), some (.int v8), some (.int v11), none, none, none]) dX12_readsForm_30 (Nat.le_of_ble_eq_true rfl) rfl ?_
    refine bw_bipush (v := 8) dX12_readsForm_32 (by decide) ?_
    refine bw_iload_n (i := 2) dX12_readsForm_34 rfl rfl ?_
    refine bw_imul dX12_readsForm_35 ?_
    refine bw_iload_n (i := 3) dX12_readsForm_36 rfl rfl ?_
    refine bw_iload dX12_readsForm_37 rfl ?_
    refine bw_cSi (As := [.int v8, .int v11]) (st := [.int (8 * v2)]) (Q' := (fun v w1 => ((2 * v8) + v11) = v ∧ w12 = w1)) cs_BentWordsModel_195 (fs_X12_formAt (d := d + 4) (a0 := v8) (a1 := v11)  ⟨rfl, rfl⟩) rfl rfl (Nat.le_of_ble_eq_true rfl) dX12_readsForm_39 (fun v w1 hv => ?_)
    obtain ⟨rfl, rfl⟩ := hv
    refine bw_iadd dX12_readsForm_42 ?_
    refine bw_istore (i := 5) (L' := [some (.ref 50), some (.int a0), some (.int v2), some (.int v8), some (.int v11), some (.int ((8 * v2) + ((2 * v8) + v11))), none, none]) dX12_readsForm_43 (Nat.le_of_ble_eq_true rfl) rfl ?_
    refine bw_aload_n (i := 0) dX12_readsForm_45 rfl rfl ?_
    refine bw_geti fg_BentWordsModel_150 rfl dX12_readsForm_46 ?_
    refine bw_iconst (v := (-1)) dX12_readsForm_49 (by decide) ?_
    refine bw_icmp_ne (tgt := 70) dX12_readsForm_50 (by decide) (fun c => ?_) (fun c => ?_)
    · replace h := h.1 (c)
      refine bw_aload_n (i := 0) dX12_readsForm_70 rfl rfl ?_
      obtain ⟨Q13, hr, h⟩ := h
      refine bw_cVl (As := []) (st := []) cv_BentWordsModel_187 rfl rfl hr rfl rfl (Nat.le_of_ble_eq_true rfl) dX12_readsForm_71 (fun v14 w15 hv => ?_)
      replace h := h v14 w15 hv
      clear hr
      refine bw_lstore (i := 6) (L' := [some (.ref 50), some (.int a0), some (.int v2), some (.int v8), some (.int v11), some (.int ((8 * v2) + ((2 * v8) + v11))), some (.long v14), none]) dX12_readsForm_74 (Nat.le_of_ble_eq_true rfl) rfl ?_
      refine bw_aload_n (i := 0) dX12_readsForm_76 rfl rfl ?_
      refine bw_geti fg_BentWordsModel_150 rfl dX12_readsForm_77 ?_
      refine bw_iconst (v := (-1)) dX12_readsForm_80 (by decide) ?_
      refine bw_icmp_ne (tgt := 93) dX12_readsForm_81 (by decide) (fun c => ?_) (fun c => ?_)
      · replace h := h.1 (c)
        exact bw_return dX12_readsForm_93 rfl ⟨rfl, h⟩
      · replace h := h.2 (c)
        refine bw_aload_n (i := 0) dX12_readsForm_84 rfl rfl ?_
        refine bw_getr (r := 54) fg_BentWordsModel_20 rfl rfl dX12_readsForm_85 ?_
        refine bw_iload dX12_readsForm_88 rfl ?_
        refine bw_lload dX12_readsForm_90 rfl ?_
        obtain ⟨hi16, h⟩ := h
        refine bw_lastore rfl hi16 dX12_readsForm_92 ?_
        exact bw_return dX12_readsForm_93 rfl ⟨rfl, h⟩
    · replace h := h.2 (c)
      refine bw_aload_n (i := 0) dX12_readsForm_53 rfl rfl ?_
      refine bw_getr (r := 54) fg_BentWordsModel_20 rfl rfl dX12_readsForm_54 ?_
      refine bw_iload dX12_readsForm_57 rfl ?_
      obtain ⟨hi17, h⟩ := h
      refine bw_laload rfl hi17 dX12_readsForm_59 ?_
      refine bw_lconst (v := 0) dX12_readsForm_60 rfl ?_
      refine bw_lcmp_eq (tgt := 70) dX12_readsForm_61 dX12_readsForm_62 (by decide) (fun c => ?_) (fun c => ?_)
      · replace h := h.1 (c)
        refine bw_aload_n (i := 0) dX12_readsForm_70 rfl rfl ?_
        obtain ⟨Q18, hr, h⟩ := h
        refine bw_cVl (As := []) (st := []) cv_BentWordsModel_187 rfl rfl hr rfl rfl (Nat.le_of_ble_eq_true rfl) dX12_readsForm_71 (fun v19 w20 hv => ?_)
        replace h := h v19 w20 hv
        clear hr
        refine bw_lstore (i := 6) (L' := [some (.ref 50), some (.int a0), some (.int v2), some (.int v8), some (.int v11), some (.int ((8 * v2) + ((2 * v8) + v11))), some (.long v19), none]) dX12_readsForm_74 (Nat.le_of_ble_eq_true rfl) rfl ?_
        refine bw_aload_n (i := 0) dX12_readsForm_76 rfl rfl ?_
        refine bw_geti fg_BentWordsModel_150 rfl dX12_readsForm_77 ?_
        refine bw_iconst (v := (-1)) dX12_readsForm_80 (by decide) ?_
        refine bw_icmp_ne (tgt := 93) dX12_readsForm_81 (by decide) (fun c => ?_) (fun c => ?_)
        · replace h := h.1 (c)
          exact bw_return dX12_readsForm_93 rfl ⟨rfl, h⟩
        · replace h := h.2 (c)
          refine bw_aload_n (i := 0) dX12_readsForm_84 rfl rfl ?_
          refine bw_getr (r := 54) fg_BentWordsModel_20 rfl rfl dX12_readsForm_85 ?_
          refine bw_iload dX12_readsForm_88 rfl ?_
          refine bw_lload dX12_readsForm_90 rfl ?_
          obtain ⟨hi21, h⟩ := h
          refine bw_lastore rfl hi21 dX12_readsForm_92 ?_
          exact bw_return dX12_readsForm_93 rfl ⟨rfl, h⟩
      · replace h := h.2 (c)
        refine bw_aload_n (i := 0) dX12_readsForm_65 rfl rfl ?_
        refine bw_iload_n (i := 1) dX12_readsForm_66 rfl rfl ?_
        refine bw_cVv (As := [.int a0]) (st := []) (Q' := (fun w1 => (sw_i w12 50 10 (if ¬ (gw_i w12 50 10) = (-1) then (gw_i w12 50 10) else a0)) = w1)) cv_BentWordsModel_153 rfl rfl (fs_X12_badAt (d := d + 4) (a0 := a0)  rfl) rfl rfl (Nat.le_of_ble_eq_true rfl) dX12_readsForm_67 (fun w1 hv => ?_)
        subst hv
        refine bw_aload_n (i := 0) dX12_readsForm_70 rfl rfl ?_
        obtain ⟨Q22, hr, h⟩ := h
        refine bw_cVl (As := []) (st := []) cv_BentWordsModel_187 rfl rfl hr rfl rfl (Nat.le_of_ble_eq_true rfl) dX12_readsForm_71 (fun v23 w24 hv => ?_)
        replace h := h v23 w24 hv
        clear hr
        refine bw_lstore (i := 6) (L' := [some (.ref 50), some (.int a0), some (.int v2), some (.int v8), some (.int v11), some (.int ((8 * v2) + ((2 * v8) + v11))), some (.long v23), none]) dX12_readsForm_74 (Nat.le_of_ble_eq_true rfl) rfl ?_
        refine bw_aload_n (i := 0) dX12_readsForm_76 rfl rfl ?_
        refine bw_geti fg_BentWordsModel_150 rfl dX12_readsForm_77 ?_
        refine bw_iconst (v := (-1)) dX12_readsForm_80 (by decide) ?_
        refine bw_icmp_ne (tgt := 93) dX12_readsForm_81 (by decide) (fun c => ?_) (fun c => ?_)
        · replace h := h.1 (c)
          exact bw_return dX12_readsForm_93 rfl ⟨rfl, h⟩
        · replace h := h.2 (c)
          refine bw_aload_n (i := 0) dX12_readsForm_84 rfl rfl ?_
          refine bw_getr (r := 54) fg_BentWordsModel_20 rfl rfl dX12_readsForm_85 ?_
          refine bw_iload dX12_readsForm_88 rfl ?_
          refine bw_lload dX12_readsForm_90 rfl ?_
          obtain ⟨hi25, h⟩ := h
          refine bw_lastore rfl hi25 dX12_readsForm_92 ?_
          exact bw_return dX12_readsForm_93 rfl ⟨rfl, h⟩
  · replace h := h.2 (c)
    refine bw_aload_n (i := 0) dX12_readsForm_10 rfl rfl ?_
    refine bw_cVv (As := []) (st := []) (Q' := (fun w1 => (sw_i w3 50 10 (if ¬ (gw_i w3 50 10) = (-1) then (gw_i w3 50 10) else (gw_i w3 50 5))) = w1)) cv_BentWordsModel_167 rfl rfl (fs_X12_bad (d := d + 3)   rfl) rfl rfl (Nat.le_of_ble_eq_true rfl) dX12_readsForm_11 (fun w1 hv => ?_)
    subst hv
    exact bw_return dX12_readsForm_14 rfl ⟨rfl, h⟩
theorem wfX12_readsWord {E : bw_E} {d : Nat} {w : bw_W} {Q : bw_W → Prop} {a0 : Bool} {a1 : Int32}  (h : (∃ Q1 : Int32 → bw_W → Prop, bw_ri E (d + 4) mX12_digit [.ref 50, .int 3] w Q1 ∧ ∀ v2 w3, Q1 v2 w3 →
(∃ Q4 : Int32 → bw_W → Prop, bw_ri E (d + 4) mX12_digit [.ref 50, .int 1] w3 Q4 ∧ ∀ v5 w6, Q4 v5 w6 →
(∃ Q7 : Int32 → bw_W → Prop, bw_ri E (d + 4) mX12_digit [.ref 50, .int 2] w6 Q7 ∧ ∀ v8 w9, Q7 v8 w9 →
((¬ (gw_i w9 50 10) = (-1) → (∃ Q10 : Int64 → bw_W → Prop, bw_rl E (d + 4) mX12_anyWord [.ref 50] w9 Q10 ∧ ∀ v11 w12, Q10 v11 w12 →
((¬ (gw_i w12 50 10) = (-1) → Q w12) ∧ ((gw_i w12 50 10) = (-1) → (vp_in (vX12_wordAt a0 v2 v5 v8) 48) ∧
Q (sw_l w12 55 ((vX12_wordAt a0 v2 v5 v8).toNatClampNeg) v11))))) ∧ ((gw_i w9 50 10) = (-1) → (vp_in (vX12_wordAt a0 v2 v5 v8) 48) ∧
(((gw_l w9 55 ((vX12_wordAt a0 v2 v5 v8).toNatClampNeg)) = 0 → (∃ Q15 : Int64 → bw_W → Prop, bw_rl E (d + 4) mX12_anyWord [.ref 50] w9 Q15 ∧ ∀ v16 w17, Q15 v16 w17 →
((¬ (gw_i w17 50 10) = (-1) → Q w17) ∧ ((gw_i w17 50 10) = (-1) → (vp_in (vX12_wordAt a0 v2 v5 v8) 48) ∧
Q (sw_l w17 55 ((vX12_wordAt a0 v2 v5 v8).toNatClampNeg) v16))))) ∧ (¬ (gw_l w9 55 ((vX12_wordAt a0 v2 v5 v8).toNatClampNeg)) = 0 → (∃ Q19 : Int64 → bw_W → Prop, bw_rl E (d + 4) mX12_anyWord [.ref 50] (sw_i w9 50 10 (if ¬ (gw_i w9 50 10) = (-1) then (gw_i w9 50 10) else a1)) Q19 ∧ ∀ v20 w21, Q19 v20 w21 →
((¬ (gw_i w21 50 10) = (-1) → Q w21) ∧ ((gw_i w21 50 10) = (-1) → (vp_in (vX12_wordAt a0 v2 v5 v8) 48) ∧
Q (sw_l w21 55 ((vX12_wordAt a0 v2 v5 v8).toNatClampNeg) v20)))))))))))) : bw_rv E (d + 5) mX12_readsWord [.ref 50, .int (bw_b a0), .int a1] w Q := by
  refine bw_enter rfl (Nat.le_of_ble_eq_true rfl) ?_
  refine bw_aload_n (i := 0) dX12_readsWord_0 rfl rfl ?_
  refine bw_iconst (v := 3) dX12_readsWord_1 (by decide) ?_
  obtain ⟨Q1, hr, h⟩ := h
  refine bw_cVi (As := [.int 3]) (st := []) cv_BentWordsModel_191 rfl rfl hr rfl rfl (Nat.le_of_ble_eq_true rfl) dX12_readsWord_2 (fun v2 w3 hv => ?_)
  replace h := h v2 w3 hv
  clear hr
  refine bw_istore_n (i := 3) (L' := [some (.ref 50), some (.int (bw_b a0)), some (.int a1), some (.int v2), none, none, none, none, none]) dX12_readsWord_5 rfl (Nat.le_of_ble_eq_true rfl) rfl ?_
  refine bw_aload_n (i := 0) dX12_readsWord_6 rfl rfl ?_
  refine bw_iconst (v := 1) dX12_readsWord_7 (by decide) ?_
  obtain ⟨Q4, hr, h⟩ := h
  refine bw_cVi (As := [.int 1]) (st := []) cv_BentWordsModel_191 rfl rfl hr rfl rfl (Nat.le_of_ble_eq_true rfl) dX12_readsWord_8 (fun v5 w6 hv => ?_)
  replace h := h v5 w6 hv
  clear hr
  refine bw_istore (i := 4) (L' := [some (.ref 50), some (.int (bw_b a0)), some (.int a1), some (.int v2), some (.int v5), none, none, none, none]) dX12_readsWord_11 (Nat.le_of_ble_eq_true rfl) rfl ?_
  refine bw_aload_n (i := 0) dX12_readsWord_13 rfl rfl ?_
  refine bw_iconst (v := 2) dX12_readsWord_14 (by decide) ?_
  obtain ⟨Q7, hr, h⟩ := h
  refine bw_cVi (As := [.int 2]) (st := []) cv_BentWordsModel_191 rfl rfl hr rfl rfl (Nat.le_of_ble_eq_true rfl) dX12_readsWord_15 (fun v8 w9 hv => ?_)
  replace h := h v8 w9 hv
  clear hr
  refine bw_istore (i := 5) (L' := [some (.ref 50), some (.int (bw_b a0)), some (.int a1), some (.int v2), some (.int v5), some (.int v8), none, none, none]) dX12_readsWord_18 (Nat.le_of_ble_eq_true rfl) rfl ?_
  refine bw_iload_n (i := 1) dX12_readsWord_20 rfl rfl ?_
  refine bw_iload_n (i := 3) dX12_readsWord_21 rfl rfl ?_
  refine bw_iload dX12_readsWord_22 rfl ?_
  refine bw_iload dX12_readsWord_24 rfl ?_
  refine bw_cSi (As := [.int (bw_b a0), .int v2, .int v5, .int v8]) (st := []) (Q' := (fun v w1 => (vX12_wordAt a0 v2 v5 v8) = v ∧ w9 = w1)) cs_BentWordsModel_198 (fs_X12_wordAt (d := d + 3) (a0 := a0) (a1 := v2) (a2 := v5) (a3 := v8)  ⟨rfl, rfl⟩) rfl rfl (Nat.le_of_ble_eq_true rfl) dX12_readsWord_26 (fun v w1 hv => ?_)
  obtain ⟨rfl, rfl⟩ := hv
  refine bw_istore (i := 6) (L' := [some (.ref 50), some (.int (bw_b a0)), some (.int a1), some (.int v2), some (.int v5), some (.int v8), some (.int (vX12_wordAt a0 v2 v5 v8)), none, none]) dX12_readsWord_29 (Nat.le_of_ble_eq_true rfl) rfl ?_
  refine bw_aload_n (i := 0) dX12_readsWord_31 rfl rfl ?_
  refine bw_geti fg_BentWordsModel_150 rfl dX12_readsWord_32 ?_
  refine bw_iconst (v := (-1)) dX12_readsWord_35 (by decide) ?_
  refine bw_icmp_ne (tgt := 56) dX12_readsWord_36 (by decide) (fun c => ?_) (fun c => ?_)
  · replace h := h.1 (c)
    refine bw_aload_n (i := 0) dX12_readsWord_56 rfl rfl ?_
    obtain ⟨Q10, hr, h⟩ := h
    refine bw_cVl (As := []) (st := []) cv_BentWordsModel_187 rfl rfl hr rfl rfl (Nat.le_of_ble_eq_true rfl) dX12_readsWord_57 (fun v11 w12 hv => ?_)
    replace h := h v11 w12 hv
    clear hr
    refine bw_lstore (i := 7) (L' := [some (.ref 50), some (.int (bw_b a0)), some (.int a1), some (.int v2), some (.int v5), some (.int v8), some (.int (vX12_wordAt a0 v2 v5 v8)), some (.long v11), none]) dX12_readsWord_60 (Nat.le_of_ble_eq_true rfl) rfl ?_
    refine bw_aload_n (i := 0) dX12_readsWord_62 rfl rfl ?_
    refine bw_geti fg_BentWordsModel_150 rfl dX12_readsWord_63 ?_
    refine bw_iconst (v := (-1)) dX12_readsWord_66 (by decide) ?_
    refine bw_icmp_ne (tgt := 79) dX12_readsWord_67 (by decide) (fun c => ?_) (fun c => ?_)
    · replace h := h.1 (c)
      exact bw_return dX12_readsWord_79 rfl ⟨rfl, h⟩
    · replace h := h.2 (c)
      refine bw_aload_n (i := 0) dX12_readsWord_70 rfl rfl ?_
      refine bw_getr (r := 55) fg_BentWordsModel_23 rfl rfl dX12_readsWord_71 ?_
      refine bw_iload dX12_readsWord_74 rfl ?_
      refine bw_lload dX12_readsWord_76 rfl ?_
      obtain ⟨hi13, h⟩ := h
      refine bw_lastore rfl hi13 dX12_readsWord_78 ?_
      exact bw_return dX12_readsWord_79 rfl ⟨rfl, h⟩
  · replace h := h.2 (c)
    refine bw_aload_n (i := 0) dX12_readsWord_39 rfl rfl ?_
    refine bw_getr (r := 55) fg_BentWordsModel_23 rfl rfl dX12_readsWord_40 ?_
    refine bw_iload dX12_readsWord_43 rfl ?_
    obtain ⟨hi14, h⟩ := h
    refine bw_laload rfl hi14 dX12_readsWord_45 ?_
    refine bw_lconst (v := 0) dX12_readsWord_46 rfl ?_
    refine bw_lcmp_eq (tgt := 56) dX12_readsWord_47 dX12_readsWord_48 (by decide) (fun c => ?_) (fun c => ?_)
    · replace h := h.1 (c)
      refine bw_aload_n (i := 0) dX12_readsWord_56 rfl rfl ?_
      obtain ⟨Q15, hr, h⟩ := h
      refine bw_cVl (As := []) (st := []) cv_BentWordsModel_187 rfl rfl hr rfl rfl (Nat.le_of_ble_eq_true rfl) dX12_readsWord_57 (fun v16 w17 hv => ?_)
      replace h := h v16 w17 hv
      clear hr
      refine bw_lstore (i := 7) (L' := [some (.ref 50), some (.int (bw_b a0)), some (.int a1), some (.int v2), some (.int v5), some (.int v8), some (.int (vX12_wordAt a0 v2 v5 v8)), some (.long v16), none]) dX12_readsWord_60 (Nat.le_of_ble_eq_true rfl) rfl ?_
      refine bw_aload_n (i := 0) dX12_readsWord_62 rfl rfl ?_
      refine bw_geti fg_BentWordsModel_150 rfl dX12_readsWord_63 ?_
      refine bw_iconst (v := (-1)) dX12_readsWord_66 (by decide) ?_
      refine bw_icmp_ne (tgt := 79) dX12_readsWord_67 (by decide) (fun c => ?_) (fun c => ?_)
      · replace h := h.1 (c)
        exact bw_return dX12_readsWord_79 rfl ⟨rfl, h⟩
      · replace h := h.2 (c)
        refine bw_aload_n (i := 0) dX12_readsWord_70 rfl rfl ?_
        refine bw_getr (r := 55) fg_BentWordsModel_23 rfl rfl dX12_readsWord_71 ?_
        refine bw_iload dX12_readsWord_74 rfl ?_
        refine bw_lload dX12_readsWord_76 rfl ?_
        obtain ⟨hi18, h⟩ := h
        refine bw_lastore rfl hi18 dX12_readsWord_78 ?_
        exact bw_return dX12_readsWord_79 rfl ⟨rfl, h⟩
    · replace h := h.2 (c)
      refine bw_aload_n (i := 0) dX12_readsWord_51 rfl rfl ?_
      refine bw_iload_n (i := 2) dX12_readsWord_52 rfl rfl ?_
      refine bw_cVv (As := [.int a1]) (st := []) (Q' := (fun w1 => (sw_i w9 50 10 (if ¬ (gw_i w9 50 10) = (-1) then (gw_i w9 50 10) else a1)) = w1)) cv_BentWordsModel_153 rfl rfl (fs_X12_badAt (d := d + 4) (a0 := a1)  rfl) rfl rfl (Nat.le_of_ble_eq_true rfl) dX12_readsWord_53 (fun w1 hv => ?_)
      subst hv
      refine bw_aload_n (i := 0) dX12_readsWord_56 rfl rfl ?_
      obtain ⟨Q19, hr, h⟩ := h
      refine bw_cVl (As := []) (st := []) cv_BentWordsModel_187 rfl rfl hr rfl rfl (Nat.le_of_ble_eq_true rfl) dX12_readsWord_57 (fun v20 w21 hv => ?_)
      replace h := h v20 w21 hv
      clear hr
      refine bw_lstore (i := 7) (L' := [some (.ref 50), some (.int (bw_b a0)), some (.int a1), some (.int v2), some (.int v5), some (.int v8), some (.int (vX12_wordAt a0 v2 v5 v8)), some (.long v20), none]) dX12_readsWord_60 (Nat.le_of_ble_eq_true rfl) rfl ?_
      refine bw_aload_n (i := 0) dX12_readsWord_62 rfl rfl ?_
      refine bw_geti fg_BentWordsModel_150 rfl dX12_readsWord_63 ?_
      refine bw_iconst (v := (-1)) dX12_readsWord_66 (by decide) ?_
      refine bw_icmp_ne (tgt := 79) dX12_readsWord_67 (by decide) (fun c => ?_) (fun c => ?_)
      · replace h := h.1 (c)
        exact bw_return dX12_readsWord_79 rfl ⟨rfl, h⟩
      · replace h := h.2 (c)
        refine bw_aload_n (i := 0) dX12_readsWord_70 rfl rfl ?_
        refine bw_getr (r := 55) fg_BentWordsModel_23 rfl rfl dX12_readsWord_71 ?_
        refine bw_iload dX12_readsWord_74 rfl ?_
        refine bw_lload dX12_readsWord_76 rfl ?_
        obtain ⟨hi22, h⟩ := h
        refine bw_lastore rfl hi22 dX12_readsWord_78 ?_
        exact bw_return dX12_readsWord_79 rfl ⟨rfl, h⟩
theorem wfX12_readItem_21 {E : bw_E} {d : Nat} {w : bw_W} {Q : bw_W → Prop} {l1 : Int32} {l2 : Int32}  (h : Q (sw_i w 50 10 (if ¬ (gw_i w 50 10) = (-1) then (gw_i w 50 10) else (gw_i w 50 5)))) : bw_G E (d + 5) mX12_readItem 21 [some (.ref 50), some (.int l1), some (.int l2), none] [] w (bw_qv Q) := by
  refine bw_aload_n (i := 0) dX12_readItem_21 rfl rfl ?_
  refine bw_cVv (As := []) (st := []) (Q' := (fun w1 => (sw_i w 50 10 (if ¬ (gw_i w 50 10) = (-1) then (gw_i w 50 10) else (gw_i w 50 5))) = w1)) cv_BentWordsModel_167 rfl rfl (fs_X12_bad (d := d + 3)   rfl) rfl rfl (Nat.le_of_ble_eq_true rfl) dX12_readItem_22 (fun w1 hv => ?_)
  subst hv
  exact bw_return dX12_readItem_25 rfl ⟨rfl, h⟩
theorem wfX12_readItem_55 {E : bw_E} {d : Nat} {w : bw_W} {Q : bw_W → Prop} {l1 : Int32} {l2 : Int32} {l3 : Int32} {s0 : Int64} {s1 : Int32}  (h : (vp_in s1 32) ∧
(∃ Q2 : bw_W → Prop, bw_rv E (d + 4) mX12_next [.ref 50] (sw_l w 59 (s1.toNatClampNeg) s0) Q2 ∧ ∀ w4, Q2 w4 →
(vp_in (3 * l3) 96) ∧
((¬ l2 = 0 → (∃ Q6 : Int32 → bw_W → Prop, bw_ri E (d + 4) mX12_digit [.ref 50, .int 2] (sw_i w4 58 ((3 * l3).toNatClampNeg) l2) Q6 ∧ ∀ v7 w8, Q6 v7 w8 →
bw_G E (d + 5) mX12_readItem 91 [some (.ref 50), some (.int l1), some (.int l2), some (.int l3)] [.int v7, .int ((3 * l3) + 1), .ref 58] w8 (bw_qv Q))) ∧ (l2 = 0 → bw_G E (d + 5) mX12_readItem 91 [some (.ref 50), some (.int l1), some (.int l2), some (.int l3)] [.int (-1), .int ((3 * l3) + 1), .ref 58] (sw_i w4 58 ((3 * l3).toNatClampNeg) l2) (bw_qv Q))))) : bw_G E (d + 5) mX12_readItem 55 [some (.ref 50), some (.int l1), some (.int l2), some (.int l3)] [.long s0, .int s1, .ref 59] w (bw_qv Q) := by
  obtain ⟨hi1, h⟩ := h
  refine bw_lastore rfl hi1 dX12_readItem_55 ?_
  refine bw_aload_n (i := 0) dX12_readItem_56 rfl rfl ?_
  obtain ⟨Q2, hr, h⟩ := h
  refine bw_cVv (As := []) (st := []) cv_BentWordsModel_160 rfl rfl hr rfl rfl (Nat.le_of_ble_eq_true rfl) dX12_readItem_57 (fun w4 hv => ?_)
  replace h := h w4 hv
  clear hr
  refine bw_aload_n (i := 0) dX12_readItem_60 rfl rfl ?_
  refine bw_getr (r := 58) fg_BentWordsModel_32 rfl rfl dX12_readItem_61 ?_
  refine bw_iconst (v := 3) dX12_readItem_64 (by decide) ?_
  refine bw_iload_n (i := 3) dX12_readItem_65 rfl rfl ?_
  refine bw_imul dX12_readItem_66 ?_
  refine bw_iload_n (i := 2) dX12_readItem_67 rfl rfl ?_
  obtain ⟨hi5, h⟩ := h
  refine bw_iastore rfl hi5 dX12_readItem_68 ?_
  refine bw_aload_n (i := 0) dX12_readItem_69 rfl rfl ?_
  refine bw_getr (r := 58) fg_BentWordsModel_32 rfl rfl dX12_readItem_70 ?_
  refine bw_iconst (v := 3) dX12_readItem_73 (by decide) ?_
  refine bw_iload_n (i := 3) dX12_readItem_74 rfl rfl ?_
  refine bw_imul dX12_readItem_75 ?_
  refine bw_iconst (v := 1) dX12_readItem_76 (by decide) ?_
  refine bw_iadd dX12_readItem_77 ?_
  refine bw_iload_n (i := 2) dX12_readItem_78 rfl rfl ?_
  refine bw_if_ne (tgt := 86) dX12_readItem_79 (by decide) (fun c => ?_) (fun c => ?_)
  · replace h := h.1 (c)
    refine bw_aload_n (i := 0) dX12_readItem_86 rfl rfl ?_
    refine bw_iconst (v := 2) dX12_readItem_87 (by decide) ?_
    obtain ⟨Q6, hr, h⟩ := h
    refine bw_cVi (As := [.int 2]) (st := [.int ((3 * l3) + 1), .ref 58]) cv_BentWordsModel_191 rfl rfl hr rfl rfl (Nat.le_of_ble_eq_true rfl) dX12_readItem_88 (fun v7 w8 hv => ?_)
    replace h := h v7 w8 hv
    clear hr
    exact h
  · replace h := h.2 (c)
    refine bw_iconst (v := (-1)) dX12_readItem_82 (by decide) ?_
    refine bw_goto (tgt := 91) dX12_readItem_83 (by decide) ?_
    exact h
theorem wfX12_readItem_91 {E : bw_E} {d : Nat} {w : bw_W} {Q : bw_W → Prop} {l1 : Int32} {l2 : Int32} {l3 : Int32} {s0 : Int32} {s1 : Int32}  (h : (vp_in s1 96) ∧
(vp_in ((3 * l3) + 2) 96) ∧
((l2 = 1 → bw_G E (d + 5) mX12_readItem 118 [some (.ref 50), some (.int l1), some (.int l2), some (.int l3)] [] (sw_i (sw_i w 58 (s1.toNatClampNeg) s0) 58 (((3 * l3) + 2).toNatClampNeg) (-1)) (bw_qv Q)) ∧ (¬ (l2 = 1) → ((l2 = 2 → bw_G E (d + 5) mX12_readItem 118 [some (.ref 50), some (.int l1), some (.int l2), some (.int l3)] [] (sw_i (sw_i w 58 (s1.toNatClampNeg) s0) 58 (((3 * l3) + 2).toNatClampNeg) (-1)) (bw_qv Q)) ∧ (¬ (l2 = 2) → ((¬ l2 = 3 → bw_G E (d + 5) mX12_readItem 133 [some (.ref 50), some (.int l1), some (.int l2), some (.int l3)] [] (sw_i (sw_i w 58 (s1.toNatClampNeg) s0) 58 (((3 * l3) + 2).toNatClampNeg) (-1)) (bw_qv Q)) ∧ (l2 = 3 → bw_G E (d + 5) mX12_readItem 118 [some (.ref 50), some (.int l1), some (.int l2), some (.int l3)] [] (sw_i (sw_i w 58 (s1.toNatClampNeg) s0) 58 (((3 * l3) + 2).toNatClampNeg) (-1)) (bw_qv Q)))))))) : bw_G E (d + 5) mX12_readItem 91 [some (.ref 50), some (.int l1), some (.int l2), some (.int l3)] [.int s0, .int s1, .ref 58] w (bw_qv Q) := by
  obtain ⟨hi1, h⟩ := h
  refine bw_iastore rfl hi1 dX12_readItem_91 ?_
  refine bw_aload_n (i := 0) dX12_readItem_92 rfl rfl ?_
  refine bw_getr (r := 58) fg_BentWordsModel_32 rfl rfl dX12_readItem_93 ?_
  refine bw_iconst (v := 3) dX12_readItem_96 (by decide) ?_
  refine bw_iload_n (i := 3) dX12_readItem_97 rfl rfl ?_
  refine bw_imul dX12_readItem_98 ?_
  refine bw_iconst (v := 2) dX12_readItem_99 (by decide) ?_
  refine bw_iadd dX12_readItem_100 ?_
  refine bw_iconst (v := (-1)) dX12_readItem_101 (by decide) ?_
  obtain ⟨hi2, h⟩ := h
  refine bw_iastore rfl hi2 dX12_readItem_102 ?_
  refine bw_iload_n (i := 2) dX12_readItem_103 rfl rfl ?_
  refine bw_iconst (v := 1) dX12_readItem_104 (by decide) ?_
  refine bw_icmp_eq (tgt := 118) dX12_readItem_105 (by decide) (fun c => ?_) (fun c => ?_)
  · replace h := h.1 (c)
    exact h
  · replace h := h.2 (c)
    refine bw_iload_n (i := 2) dX12_readItem_108 rfl rfl ?_
    refine bw_iconst (v := 2) dX12_readItem_109 (by decide) ?_
    refine bw_icmp_eq (tgt := 118) dX12_readItem_110 (by decide) (fun c => ?_) (fun c => ?_)
    · replace h := h.1 (c)
      exact h
    · replace h := h.2 (c)
      refine bw_iload_n (i := 2) dX12_readItem_113 rfl rfl ?_
      refine bw_iconst (v := 3) dX12_readItem_114 (by decide) ?_
      refine bw_icmp_ne (tgt := 133) dX12_readItem_115 (by decide) (fun c => ?_) (fun c => ?_)
      · replace h := h.1 (c)
        exact h
      · replace h := h.2 (c)
        exact h
theorem wfX12_readItem_118 {E : bw_E} {d : Nat} {w : bw_W} {Q : bw_W → Prop} {l1 : Int32} {l2 : Int32} {l3 : Int32}  (h : (∃ Q1 : Int32 → bw_W → Prop, bw_ri E (d + 4) mX12_digit [.ref 50, .int 3] w Q1 ∧ ∀ v2 w3, Q1 v2 w3 →
(vp_in ((3 * l3) + 2) 96) ∧
bw_G E (d + 5) mX12_readItem 133 [some (.ref 50), some (.int l1), some (.int l2), some (.int l3)] [] (sw_i w3 58 (((3 * l3) + 2).toNatClampNeg) v2) (bw_qv Q))) : bw_G E (d + 5) mX12_readItem 118 [some (.ref 50), some (.int l1), some (.int l2), some (.int l3)] [] w (bw_qv Q) := by
  refine bw_aload_n (i := 0) dX12_readItem_118 rfl rfl ?_
  refine bw_getr (r := 58) fg_BentWordsModel_32 rfl rfl dX12_readItem_119 ?_
  refine bw_iconst (v := 3) dX12_readItem_122 (by decide) ?_
  refine bw_iload_n (i := 3) dX12_readItem_123 rfl rfl ?_
  refine bw_imul dX12_readItem_124 ?_
  refine bw_iconst (v := 2) dX12_readItem_125 (by decide) ?_
  refine bw_iadd dX12_readItem_126 ?_
  refine bw_aload_n (i := 0) dX12_readItem_127 rfl rfl ?_
  refine bw_iconst (v := 3) dX12_readItem_128 (by decide) ?_
  obtain ⟨Q1, hr, h⟩ := h
  refine bw_cVi (As := [.int 3]) (st := [.int ((3 * l3) + 2), .ref 58]) cv_BentWordsModel_191 rfl rfl hr rfl rfl (Nat.le_of_ble_eq_true rfl) dX12_readItem_129 (fun v2 w3 hv => ?_)
  replace h := h v2 w3 hv
  clear hr
  obtain ⟨hi4, h⟩ := h
  refine bw_iastore rfl hi4 dX12_readItem_132 ?_
  exact h
theorem wfX12_readItem_133 {E : bw_E} {d : Nat} {w : bw_W} {Q : bw_W → Prop} {l1 : Int32} {l2 : Int32} {l3 : Int32}  (h : ((l2 < 5 → bw_G E (d + 5) mX12_readItem 198 [some (.ref 50), some (.int l1), some (.int l2), some (.int l3)] [] w (bw_qv Q)) ∧ (¬ (l2 < 5) → ((¬ (gw_i w 50 10) = (-1) → bw_G E (d + 5) mX12_readItem 183 [some (.ref 50), some (.int l1), some (.int l2), some (.int l3)] [] w (bw_qv Q)) ∧ ((gw_i w 50 10) = (-1) → ((¬ (gw_i w 50 4) = 2 → bw_G E (d + 5) mX12_readItem 183 [some (.ref 50), some (.int l1), some (.int l2), some (.int l3)] [] w (bw_qv Q)) ∧ ((gw_i w 50 4) = 2 → ((¬ (gw_i w 50 7) = 1 → bw_G E (d + 5) mX12_readItem 183 [some (.ref 50), some (.int l1), some (.int l2), some (.int l3)] [] w (bw_qv Q)) ∧ ((gw_i w 50 7) = 1 → (vp_in ((3 * l3) + 1) 96) ∧
((¬ (gw_i w 50 6) = (gw_i w 58 (((3 * l3) + 1).toNatClampNeg)) → bw_G E (d + 5) mX12_readItem 183 [some (.ref 50), some (.int l1), some (.int l2), some (.int l3)] [] w (bw_qv Q)) ∧ ((gw_i w 50 6) = (gw_i w 58 (((3 * l3) + 1).toNatClampNeg)) → bw_G E (d + 5) mX12_readItem 183 [some (.ref 50), some (.int l1), some (.int l2), some (.int l3)] [] (sw_i w 50 10 (if ¬ (gw_i w 50 10) = (-1) then (gw_i w 50 10) else (gw_i w 50 5))) (bw_qv Q)))))))))))) : bw_G E (d + 5) mX12_readItem 133 [some (.ref 50), some (.int l1), some (.int l2), some (.int l3)] [] w (bw_qv Q) := by
  refine bw_iload_n (i := 2) dX12_readItem_133 rfl rfl ?_
  refine bw_iconst (v := 5) dX12_readItem_134 (by decide) ?_
  refine bw_icmp_lt (tgt := 198) dX12_readItem_135 (by decide) (fun c => ?_) (fun c => ?_)
  · replace h := h.1 (c)
    exact h
  · replace h := h.2 (c)
    refine bw_aload_n (i := 0) dX12_readItem_138 rfl rfl ?_
    refine bw_geti fg_BentWordsModel_150 rfl dX12_readItem_139 ?_
    refine bw_iconst (v := (-1)) dX12_readItem_142 (by decide) ?_
    refine bw_icmp_ne (tgt := 183) dX12_readItem_143 (by decide) (fun c => ?_) (fun c => ?_)
    · replace h := h.1 (c)
      exact h
    · replace h := h.2 (c)
      refine bw_aload_n (i := 0) dX12_readItem_146 rfl rfl ?_
      refine bw_geti fg_BentWordsModel_126 rfl dX12_readItem_147 ?_
      refine bw_iconst (v := 2) dX12_readItem_150 (by decide) ?_
      refine bw_icmp_ne (tgt := 183) dX12_readItem_151 (by decide) (fun c => ?_) (fun c => ?_)
      · replace h := h.1 (c)
        exact h
      · replace h := h.2 (c)
        refine bw_aload_n (i := 0) dX12_readItem_154 rfl rfl ?_
        refine bw_geti fg_BentWordsModel_132 rfl dX12_readItem_155 ?_
        refine bw_iconst (v := 1) dX12_readItem_158 (by decide) ?_
        refine bw_icmp_ne (tgt := 183) dX12_readItem_159 (by decide) (fun c => ?_) (fun c => ?_)
        · replace h := h.1 (c)
          exact h
        · replace h := h.2 (c)
          refine bw_aload_n (i := 0) dX12_readItem_162 rfl rfl ?_
          refine bw_geti fg_BentWordsModel_129 rfl dX12_readItem_163 ?_
          refine bw_aload_n (i := 0) dX12_readItem_166 rfl rfl ?_
          refine bw_getr (r := 58) fg_BentWordsModel_32 rfl rfl dX12_readItem_167 ?_
          refine bw_iconst (v := 3) dX12_readItem_170 (by decide) ?_
          refine bw_iload_n (i := 3) dX12_readItem_171 rfl rfl ?_
          refine bw_imul dX12_readItem_172 ?_
          refine bw_iconst (v := 1) dX12_readItem_173 (by decide) ?_
          refine bw_iadd dX12_readItem_174 ?_
          obtain ⟨hi1, h⟩ := h
          refine bw_iaload rfl hi1 dX12_readItem_175 ?_
          refine bw_icmp_ne (tgt := 183) dX12_readItem_176 (by decide) (fun c => ?_) (fun c => ?_)
          · replace h := h.1 (c)
            exact h
          · replace h := h.2 (c)
            refine bw_aload_n (i := 0) dX12_readItem_179 rfl rfl ?_
            refine bw_cVv (As := []) (st := []) (Q' := (fun w1 => (sw_i w 50 10 (if ¬ (gw_i w 50 10) = (-1) then (gw_i w 50 10) else (gw_i w 50 5))) = w1)) cv_BentWordsModel_167 rfl rfl (fs_X12_bad (d := d + 3)   rfl) rfl rfl (Nat.le_of_ble_eq_true rfl) dX12_readItem_180 (fun w1 hv => ?_)
            subst hv
            exact h
theorem wfX12_readItem_183 {E : bw_E} {d : Nat} {w : bw_W} {Q : bw_W → Prop} {l1 : Int32} {l2 : Int32} {l3 : Int32}  (h : (∃ Q1 : Int32 → bw_W → Prop, bw_ri E (d + 4) mX12_digit [.ref 50, .int 2] w Q1 ∧ ∀ v2 w3, Q1 v2 w3 →
(vp_in ((3 * l3) + 2) 96) ∧
bw_G E (d + 5) mX12_readItem 198 [some (.ref 50), some (.int l1), some (.int l2), some (.int l3)] [] (sw_i w3 58 (((3 * l3) + 2).toNatClampNeg) v2) (bw_qv Q))) : bw_G E (d + 5) mX12_readItem 183 [some (.ref 50), some (.int l1), some (.int l2), some (.int l3)] [] w (bw_qv Q) := by
  refine bw_aload_n (i := 0) dX12_readItem_183 rfl rfl ?_
  refine bw_getr (r := 58) fg_BentWordsModel_32 rfl rfl dX12_readItem_184 ?_
  refine bw_iconst (v := 3) dX12_readItem_187 (by decide) ?_
  refine bw_iload_n (i := 3) dX12_readItem_188 rfl rfl ?_
  refine bw_imul dX12_readItem_189 ?_
  refine bw_iconst (v := 2) dX12_readItem_190 (by decide) ?_
  refine bw_iadd dX12_readItem_191 ?_
  refine bw_aload_n (i := 0) dX12_readItem_192 rfl rfl ?_
  refine bw_iconst (v := 2) dX12_readItem_193 (by decide) ?_
  obtain ⟨Q1, hr, h⟩ := h
  refine bw_cVi (As := [.int 2]) (st := [.int ((3 * l3) + 2), .ref 58]) cv_BentWordsModel_191 rfl rfl hr rfl rfl (Nat.le_of_ble_eq_true rfl) dX12_readItem_194 (fun v2 w3 hv => ?_)
  replace h := h v2 w3 hv
  clear hr
  obtain ⟨hi4, h⟩ := h
  refine bw_iastore rfl hi4 dX12_readItem_197 ?_
  exact h
theorem wfX12_readItem_198 {E : bw_E} {d : Nat} {w : bw_W} {Q : bw_W → Prop} {l1 : Int32} {l2 : Int32} {l3 : Int32}  (h : (vp_in l1 4) ∧
(vp_in l1 4) ∧
Q (sw_i w 57 (l1.toNatClampNeg) ((gw_i w 57 (l1.toNatClampNeg)) + 1))) : bw_G E (d + 5) mX12_readItem 198 [some (.ref 50), some (.int l1), some (.int l2), some (.int l3)] [] w (bw_qv Q) := by
  refine bw_aload_n (i := 0) dX12_readItem_198 rfl rfl ?_
  refine bw_getr (r := 57) fg_BentWordsModel_29 rfl rfl dX12_readItem_199 ?_
  refine bw_iload_n (i := 1) dX12_readItem_202 rfl rfl ?_
  refine bw_dup2 dX12_readItem_203 rfl rfl ?_
  obtain ⟨hi1, h⟩ := h
  refine bw_iaload rfl hi1 dX12_readItem_204 ?_
  refine bw_iconst (v := 1) dX12_readItem_205 (by decide) ?_
  refine bw_iadd dX12_readItem_206 ?_
  obtain ⟨hi2, h⟩ := h
  refine bw_iastore rfl hi2 dX12_readItem_207 ?_
  exact bw_return dX12_readItem_208 rfl ⟨rfl, h⟩
theorem wfX12_readItem {E : bw_E} {d : Nat} {w : bw_W} {Q : bw_W → Prop} {a0 : Int32}  (h : (∃ Q1 : Int32 → bw_W → Prop, bw_ri E (d + 4) mX12_sortHere [.ref 50] w Q1 ∧ ∀ v2 w3, Q1 v2 w3 →
((v2 = (-1) → bw_G E (d + 5) mX12_readItem 21 [some (.ref 50), some (.int a0), some (.int v2), none] [] w3 (bw_qv Q)) ∧ (¬ (v2 = (-1)) → (vp_in a0 4) ∧
((¬ (gw_i w3 57 (a0.toNatClampNeg)) = 8 → (vp_in a0 4) ∧
((¬ v2 = 0 → bw_G E (d + 5) mX12_readItem 55 [some (.ref 50), some (.int a0), some (.int v2), some (.int ((8 * a0) + (gw_i w3 57 (a0.toNatClampNeg))))] [.long 0, .int ((8 * a0) + (gw_i w3 57 (a0.toNatClampNeg))), .ref 59] w3 (bw_qv Q)) ∧ (v2 = 0 → bw_G E (d + 5) mX12_readItem 55 [some (.ref 50), some (.int a0), some (.int v2), some (.int ((8 * a0) + (gw_i w3 57 (a0.toNatClampNeg))))] [.long (gw_l w3 50 11), .int ((8 * a0) + (gw_i w3 57 (a0.toNatClampNeg))), .ref 59] w3 (bw_qv Q)))) ∧ ((gw_i w3 57 (a0.toNatClampNeg)) = 8 → bw_G E (d + 5) mX12_readItem 21 [some (.ref 50), some (.int a0), some (.int v2), none] [] w3 (bw_qv Q))))))) : bw_rv E (d + 5) mX12_readItem [.ref 50, .int a0] w Q := by
  refine bw_enter rfl (Nat.le_of_ble_eq_true rfl) ?_
  refine bw_aload_n (i := 0) dX12_readItem_0 rfl rfl ?_
  obtain ⟨Q1, hr, h⟩ := h
  refine bw_cVi (As := []) (st := []) cv_BentWordsModel_202 rfl rfl hr rfl rfl (Nat.le_of_ble_eq_true rfl) dX12_readItem_1 (fun v2 w3 hv => ?_)
  replace h := h v2 w3 hv
  clear hr
  refine bw_istore_n (i := 2) (L' := [some (.ref 50), some (.int a0), some (.int v2), none]) dX12_readItem_4 rfl (Nat.le_of_ble_eq_true rfl) rfl ?_
  refine bw_iload_n (i := 2) dX12_readItem_5 rfl rfl ?_
  refine bw_iconst (v := (-1)) dX12_readItem_6 (by decide) ?_
  refine bw_icmp_eq (tgt := 21) dX12_readItem_7 (by decide) (fun c => ?_) (fun c => ?_)
  · replace h := h.1 (c)
    exact h
  · replace h := h.2 (c)
    refine bw_aload_n (i := 0) dX12_readItem_10 rfl rfl ?_
    refine bw_getr (r := 57) fg_BentWordsModel_29 rfl rfl dX12_readItem_11 ?_
    refine bw_iload_n (i := 1) dX12_readItem_14 rfl rfl ?_
    obtain ⟨hi4, h⟩ := h
    refine bw_iaload rfl hi4 dX12_readItem_15 ?_
    refine bw_bipush (v := 8) dX12_readItem_16 (by decide) ?_
    refine bw_icmp_ne (tgt := 26) dX12_readItem_18 (by decide) (fun c => ?_) (fun c => ?_)
    · replace h := h.1 (c)
      refine bw_bipush (v := 8) dX12_readItem_26 (by decide) ?_
      refine bw_iload_n (i := 1) dX12_readItem_28 rfl rfl ?_
      refine bw_imul dX12_readItem_29 ?_
      refine bw_aload_n (i := 0) dX12_readItem_30 rfl rfl ?_
      refine bw_getr (r := 57) fg_BentWordsModel_29 rfl rfl dX12_readItem_31 ?_
      refine bw_iload_n (i := 1) dX12_readItem_34 rfl rfl ?_
      obtain ⟨hi5, h⟩ := h
      refine bw_iaload rfl hi5 dX12_readItem_35 ?_
      refine bw_iadd dX12_readItem_36 ?_
      refine bw_istore_n (i := 3) (L' := [some (.ref 50), some (.int a0), some (.int v2), some (.int ((8 * a0) + (gw_i w3 57 (a0.toNatClampNeg))))]) dX12_readItem_37 rfl (Nat.le_of_ble_eq_true rfl) rfl ?_
      refine bw_aload_n (i := 0) dX12_readItem_38 rfl rfl ?_
      refine bw_getr (r := 59) fg_BentWordsModel_35 rfl rfl dX12_readItem_39 ?_
      refine bw_iload_n (i := 3) dX12_readItem_42 rfl rfl ?_
      refine bw_iload_n (i := 2) dX12_readItem_43 rfl rfl ?_
      refine bw_if_ne (tgt := 54) dX12_readItem_44 (by decide) (fun c => ?_) (fun c => ?_)
      · replace h := h.1 (c)
        refine bw_lconst (v := 0) dX12_readItem_54 rfl ?_
        exact h
      · replace h := h.2 (c)
        refine bw_aload_n (i := 0) dX12_readItem_47 rfl rfl ?_
        refine bw_getl fg_BentWordsModel_107 rfl dX12_readItem_48 ?_
        refine bw_goto (tgt := 55) dX12_readItem_51 (by decide) ?_
        exact h
    · replace h := h.2 (c)
      exact h
theorem wfX12_readStep {E : bw_E} {d : Nat} {w : bw_W} {Q : bw_W → Prop} {a0 : Int32}  (h : ((¬ (((gw_i w 50 10) = (-1)) ∧ ((((gw_i w 50 4) = 1) ∧ (¬ (8 < (gw_i w 50 9)))) ∧ ((gw_l w 50 11) = 124995))) → ((¬ (((gw_i w 50 10) = (-1)) ∧ ((((gw_i w 50 4) = 1) ∧ (¬ (8 < (gw_i w 50 9)))) ∧ ((gw_l w 50 11) = 2925313))) → ((¬ (((gw_i w 50 10) = (-1)) ∧ ((((gw_i w 50 4) = 1) ∧ (¬ (8 < (gw_i w 50 9)))) ∧ ((gw_l w 50 11) = 283619009))) → ((¬ (((gw_i w 50 10) = (-1)) ∧ ((((gw_i w 50 4) = 1) ∧ (¬ (8 < (gw_i w 50 9)))) ∧ ((gw_l w 50 11) = 129532))) → ((¬ (((gw_i w 50 10) = (-1)) ∧ ((((gw_i w 50 4) = 1) ∧ (¬ (8 < (gw_i w 50 9)))) ∧ ((gw_l w 50 11) = 92275))) → Q (sw_i w 50 10 (if ¬ (gw_i w 50 10) = (-1) then (gw_i w 50 10) else (gw_i w 50 5)))) ∧ (((gw_i w 50 10) = (-1)) ∧ ((((gw_i w 50 4) = 1) ∧ (¬ (8 < (gw_i w 50 9)))) ∧ ((gw_l w 50 11) = 92275)) → (∃ Q1 : bw_W → Prop, bw_rv E (d + 4) mX12_next [.ref 50] w Q1 ∧ ∀ w3, Q1 w3 →
(vp_in (4 * a0) 240) ∧
(∃ Q5 : Int32 → bw_W → Prop, bw_ri E (d + 4) mX12_digit [.ref 50, .int 9] (sw_i w3 60 ((4 * a0).toNatClampNeg) 4) Q5 ∧ ∀ v6 w7, Q5 v6 w7 →
(vp_in ((4 * a0) + 1) 240) ∧
(∃ Q9 : Int32 → bw_W → Prop, bw_ri E (d + 4) mX12_digit [.ref 50, .int 3] (sw_i w7 60 (((4 * a0) + 1).toNatClampNeg) v6) Q9 ∧ ∀ v10 w11, Q9 v10 w11 →
(vp_in ((4 * a0) + 2) 240) ∧
(∃ Q13 : Int32 → bw_W → Prop, bw_ri E (d + 4) mX12_digit [.ref 50, .int 1] (sw_i w11 60 (((4 * a0) + 2).toNatClampNeg) v10) Q13 ∧ ∀ v14 w15, Q13 v14 w15 →
(vp_in ((4 * a0) + 3) 240) ∧
(vp_in a0 60) ∧
Q (sw_l (sw_i w15 60 (((4 * a0) + 3).toNatClampNeg) v14) 61 (a0.toNatClampNeg) 0)))))))) ∧ (((gw_i w 50 10) = (-1)) ∧ ((((gw_i w 50 4) = 1) ∧ (¬ (8 < (gw_i w 50 9)))) ∧ ((gw_l w 50 11) = 129532)) → (∃ Q18 : bw_W → Prop, bw_rv E (d + 4) mX12_next [.ref 50] w Q18 ∧ ∀ w20, Q18 w20 →
(vp_in (4 * a0) 240) ∧
(∃ Q22 : Int32 → bw_W → Prop, bw_ri E (d + 4) mX12_digit [.ref 50, .int 9] (sw_i w20 60 ((4 * a0).toNatClampNeg) 3) Q22 ∧ ∀ v23 w24, Q22 v23 w24 →
(vp_in ((4 * a0) + 1) 240) ∧
(∃ Q26 : Int32 → bw_W → Prop, bw_ri E (d + 4) mX12_digit [.ref 50, .int 3] (sw_i w24 60 (((4 * a0) + 1).toNatClampNeg) v23) Q26 ∧ ∀ v27 w28, Q26 v27 w28 →
(vp_in ((4 * a0) + 2) 240) ∧
(∃ Q30 : Int32 → bw_W → Prop, bw_ri E (d + 4) mX12_digit [.ref 50, .int 1] (sw_i w28 60 (((4 * a0) + 2).toNatClampNeg) v27) Q30 ∧ ∀ v31 w32, Q30 v31 w32 →
(vp_in ((4 * a0) + 3) 240) ∧
(∃ Q34 : Int64 → bw_W → Prop, bw_rl E (d + 4) mX12_anyWord [.ref 50] (sw_i w32 60 (((4 * a0) + 3).toNatClampNeg) v31) Q34 ∧ ∀ v35 w36, Q34 v35 w36 →
(vp_in a0 60) ∧
Q (sw_l w36 61 (a0.toNatClampNeg) v35))))))))) ∧ (((gw_i w 50 10) = (-1)) ∧ ((((gw_i w 50 4) = 1) ∧ (¬ (8 < (gw_i w 50 9)))) ∧ ((gw_l w 50 11) = 283619009)) → (∃ Q38 : bw_W → Prop, bw_rv E (d + 4) mX12_next [.ref 50] w Q38 ∧ ∀ w40, Q38 w40 →
(vp_in (4 * a0) 240) ∧
(∃ Q42 : Int32 → bw_W → Prop, bw_ri E (d + 4) mX12_digit [.ref 50, .int 1] (sw_i w40 60 ((4 * a0).toNatClampNeg) 2) Q42 ∧ ∀ v43 w44, Q42 v43 w44 →
(vp_in ((4 * a0) + 1) 240) ∧
(vp_in ((4 * a0) + 2) 240) ∧
(vp_in ((4 * a0) + 3) 240) ∧
(vp_in a0 60) ∧
Q (sw_l (sw_i (sw_i (sw_i w44 60 (((4 * a0) + 1).toNatClampNeg) v43) 60 (((4 * a0) + 2).toNatClampNeg) (-1000000)) 60 (((4 * a0) + 3).toNatClampNeg) (-1000000)) 61 (a0.toNatClampNeg) 0)))))) ∧ (((gw_i w 50 10) = (-1)) ∧ ((((gw_i w 50 4) = 1) ∧ (¬ (8 < (gw_i w 50 9)))) ∧ ((gw_l w 50 11) = 2925313)) → (∃ Q49 : bw_W → Prop, bw_rv E (d + 4) mX12_next [.ref 50] w Q49 ∧ ∀ w51, Q49 w51 →
(vp_in (4 * a0) 240) ∧
(∃ Q53 : Int32 → bw_W → Prop, bw_ri E (d + 4) mX12_digit [.ref 50, .int 2] (sw_i w51 60 ((4 * a0).toNatClampNeg) 1) Q53 ∧ ∀ v54 w55, Q53 v54 w55 →
(vp_in ((4 * a0) + 1) 240) ∧
(vp_in ((4 * a0) + 2) 240) ∧
(vp_in ((4 * a0) + 3) 240) ∧
(vp_in a0 60) ∧
Q (sw_l (sw_i (sw_i (sw_i w55 60 (((4 * a0) + 1).toNatClampNeg) v54) 60 (((4 * a0) + 2).toNatClampNeg) (-1000000)) 60 (((4 * a0) + 3).toNatClampNeg) (-1000000)) 61 (a0.toNatClampNeg) 0)))))) ∧ (((gw_i w 50 10) = (-1)) ∧ ((((gw_i w 50 4) = 1) ∧ (¬ (8 < (gw_i w 50 9)))) ∧ ((gw_l w 50 11) = 124995)) → (∃ Q60 : bw_W → Prop, bw_rv E (d + 4) mX12_next [.ref 50] w Q60 ∧ ∀ w62, Q60 w62 →
(vp_in (4 * a0) 240) ∧
(∃ Q64 : Int32 → bw_W → Prop, bw_ri E (d + 4) mX12_digit [.ref 50, .int 2] (sw_i w62 60 ((4 * a0).toNatClampNeg) 0) Q64 ∧ ∀ v65 w66, Q64 v65 w66 →
(vp_in ((4 * a0) + 1) 240) ∧
(∃ Q68 : Int32 → bw_W → Prop, bw_ri E (d + 4) mX12_digit [.ref 50, .int 9] (sw_i w66 60 (((4 * a0) + 1).toNatClampNeg) v65) Q68 ∧ ∀ v69 w70, Q68 v69 w70 →
(vp_in ((4 * a0) + 2) 240) ∧
(∃ Q72 : Int32 → bw_W → Prop, bw_ri E (d + 4) mX12_numberOf [.ref 50, .int 2, .int 99] (sw_i w70 60 (((4 * a0) + 2).toNatClampNeg) v69) Q72 ∧ ∀ v73 w74, Q72 v73 w74 →
(vp_in ((4 * a0) + 3) 240) ∧
(vp_in a0 60) ∧
Q (sw_l (sw_i w74 60 (((4 * a0) + 3).toNatClampNeg) v73) 61 (a0.toNatClampNeg) 0)))))))) : bw_rv E (d + 5) mX12_readStep [.ref 50, .int a0] w Q := by
  refine bw_enter rfl (Nat.le_of_ble_eq_true rfl) ?_
  refine bw_aload_n (i := 0) dX12_readStep_0 rfl rfl ?_
  refine bw_gets (f := "W_FILL") (v := 124995) (by decide) ks_BentWordsModel_247 dX12_readStep_1 ?_
  refine bw_cVb (As := [.long 124995]) (st := []) (Q' := (fun v w1 => (decide (((gw_i w 50 10) = (-1)) ∧ ((((gw_i w 50 4) = 1) ∧ (¬ (8 < (gw_i w 50 9)))) ∧ ((gw_l w 50 11) = 124995)))) = v ∧ w = w1)) cv_BentWordsModel_177 rfl rfl (fs_X12_isWord (d := d + 3) (a0 := 124995)  ⟨rfl, rfl⟩) rfl rfl (Nat.le_of_ble_eq_true rfl) dX12_readStep_4 (fun v w1 hv => ?_)
  obtain ⟨rfl, rfl⟩ := hv
  refine bw_ifb_eq (tgt := 14) dX12_readStep_7 (by decide) (fun c => ?_) (fun c => ?_)
  · replace h := h.1 (of_decide_eq_false c)
    refine bw_aload_n (i := 0) dX12_readStep_14 rfl rfl ?_
    refine bw_gets (f := "W_EMPTY") (v := 2925313) (by decide) ks_BentWordsModel_250 dX12_readStep_15 ?_
    refine bw_cVb (As := [.long 2925313]) (st := []) (Q' := (fun v w1 => (decide (((gw_i w 50 10) = (-1)) ∧ ((((gw_i w 50 4) = 1) ∧ (¬ (8 < (gw_i w 50 9)))) ∧ ((gw_l w 50 11) = 2925313)))) = v ∧ w = w1)) cv_BentWordsModel_177 rfl rfl (fs_X12_isWord (d := d + 3) (a0 := 2925313)  ⟨rfl, rfl⟩) rfl rfl (Nat.le_of_ble_eq_true rfl) dX12_readStep_18 (fun v w1 hv => ?_)
    obtain ⟨rfl, rfl⟩ := hv
    refine bw_ifb_eq (tgt := 28) dX12_readStep_21 (by decide) (fun c => ?_) (fun c => ?_)
    · replace h := h.1 (of_decide_eq_false c)
      refine bw_aload_n (i := 0) dX12_readStep_28 rfl rfl ?_
      refine bw_gets (f := "W_STRICT") (v := 283619009) (by decide) ks_BentWordsModel_253 dX12_readStep_29 ?_
      refine bw_cVb (As := [.long 283619009]) (st := []) (Q' := (fun v w1 => (decide (((gw_i w 50 10) = (-1)) ∧ ((((gw_i w 50 4) = 1) ∧ (¬ (8 < (gw_i w 50 9)))) ∧ ((gw_l w 50 11) = 283619009)))) = v ∧ w = w1)) cv_BentWordsModel_177 rfl rfl (fs_X12_isWord (d := d + 3) (a0 := 283619009)  ⟨rfl, rfl⟩) rfl rfl (Nat.le_of_ble_eq_true rfl) dX12_readStep_32 (fun v w1 hv => ?_)
      obtain ⟨rfl, rfl⟩ := hv
      refine bw_ifb_eq (tgt := 42) dX12_readStep_35 (by decide) (fun c => ?_) (fun c => ?_)
      · replace h := h.1 (of_decide_eq_false c)
        refine bw_aload_n (i := 0) dX12_readStep_42 rfl rfl ?_
        refine bw_gets (f := "W_FORM") (v := 129532) (by decide) ks_BentWordsModel_213 dX12_readStep_43 ?_
        refine bw_cVb (As := [.long 129532]) (st := []) (Q' := (fun v w1 => (decide (((gw_i w 50 10) = (-1)) ∧ ((((gw_i w 50 4) = 1) ∧ (¬ (8 < (gw_i w 50 9)))) ∧ ((gw_l w 50 11) = 129532)))) = v ∧ w = w1)) cv_BentWordsModel_177 rfl rfl (fs_X12_isWord (d := d + 3) (a0 := 129532)  ⟨rfl, rfl⟩) rfl rfl (Nat.le_of_ble_eq_true rfl) dX12_readStep_46 (fun v w1 hv => ?_)
        obtain ⟨rfl, rfl⟩ := hv
        refine bw_ifb_eq (tgt := 56) dX12_readStep_49 (by decide) (fun c => ?_) (fun c => ?_)
        · replace h := h.1 (of_decide_eq_false c)
          refine bw_aload_n (i := 0) dX12_readStep_56 rfl rfl ?_
          refine bw_gets (f := "W_DROP") (v := 92275) (by decide) ks_BentWordsModel_256 dX12_readStep_57 ?_
          refine bw_cVb (As := [.long 92275]) (st := []) (Q' := (fun v w1 => (decide (((gw_i w 50 10) = (-1)) ∧ ((((gw_i w 50 4) = 1) ∧ (¬ (8 < (gw_i w 50 9)))) ∧ ((gw_l w 50 11) = 92275)))) = v ∧ w = w1)) cv_BentWordsModel_177 rfl rfl (fs_X12_isWord (d := d + 3) (a0 := 92275)  ⟨rfl, rfl⟩) rfl rfl (Nat.le_of_ble_eq_true rfl) dX12_readStep_60 (fun v w1 hv => ?_)
          obtain ⟨rfl, rfl⟩ := hv
          refine bw_ifb_eq (tgt := 70) dX12_readStep_63 (by decide) (fun c => ?_) (fun c => ?_)
          · replace h := h.1 (of_decide_eq_false c)
            refine bw_iconst (v := (-1)) dX12_readStep_70 (by decide) ?_
            refine bw_istore_n (i := 2) (L' := [some (.ref 50), some (.int a0), some (.int (-1)), none]) dX12_readStep_71 rfl (Nat.le_of_ble_eq_true rfl) rfl ?_
            refine bw_iload_n (i := 2) dX12_readStep_72 rfl rfl ?_
            refine bw_iconst (v := (-1)) dX12_readStep_73 (by decide) ?_
            refine bw_icmp_ne (tgt := 82) dX12_readStep_74 (by decide) (fun c => absurd c (by decide)) (fun _ => ?_)
            refine bw_aload_n (i := 0) dX12_readStep_77 rfl rfl ?_
            refine bw_cVv (As := []) (st := []) (Q' := (fun w1 => (sw_i w 50 10 (if ¬ (gw_i w 50 10) = (-1) then (gw_i w 50 10) else (gw_i w 50 5))) = w1)) cv_BentWordsModel_167 rfl rfl (fs_X12_bad (d := d + 3)   rfl) rfl rfl (Nat.le_of_ble_eq_true rfl) dX12_readStep_78 (fun w1 hv => ?_)
            subst hv
            exact bw_return dX12_readStep_81 rfl ⟨rfl, h⟩
          · replace h := h.2 (of_decide_eq_true c)
            refine bw_iconst (v := 4) dX12_readStep_66 (by decide) ?_
            refine bw_goto (tgt := 71) dX12_readStep_67 (by decide) ?_
            refine bw_istore_n (i := 2) (L' := [some (.ref 50), some (.int a0), some (.int 4), none]) dX12_readStep_71 rfl (Nat.le_of_ble_eq_true rfl) rfl ?_
            refine bw_iload_n (i := 2) dX12_readStep_72 rfl rfl ?_
            refine bw_iconst (v := (-1)) dX12_readStep_73 (by decide) ?_
            refine bw_icmp_ne (tgt := 82) dX12_readStep_74 (by decide) (fun _ => ?_) (fun c => absurd c (by decide))
            refine bw_aload_n (i := 0) dX12_readStep_82 rfl rfl ?_
            obtain ⟨Q1, hr, h⟩ := h
            refine bw_cVv (As := []) (st := []) cv_BentWordsModel_160 rfl rfl hr rfl rfl (Nat.le_of_ble_eq_true rfl) dX12_readStep_83 (fun w3 hv => ?_)
            replace h := h w3 hv
            clear hr
            refine bw_iconst (v := 4) dX12_readStep_86 (by decide) ?_
            refine bw_iload_n (i := 1) dX12_readStep_87 rfl rfl ?_
            refine bw_imul dX12_readStep_88 ?_
            refine bw_istore_n (i := 3) (L' := [some (.ref 50), some (.int a0), some (.int 4), some (.int (4 * a0))]) dX12_readStep_89 rfl (Nat.le_of_ble_eq_true rfl) rfl ?_
            refine bw_aload_n (i := 0) dX12_readStep_90 rfl rfl ?_
            refine bw_getr (r := 60) fg_BentWordsModel_38 rfl rfl dX12_readStep_91 ?_
            refine bw_iload_n (i := 3) dX12_readStep_94 rfl rfl ?_
            refine bw_iload_n (i := 2) dX12_readStep_95 rfl rfl ?_
            obtain ⟨hi4, h⟩ := h
            refine bw_iastore rfl hi4 dX12_readStep_96 ?_
            refine bw_aload_n (i := 0) dX12_readStep_97 rfl rfl ?_
            refine bw_getr (r := 60) fg_BentWordsModel_38 rfl rfl dX12_readStep_98 ?_
            refine bw_iload_n (i := 3) dX12_readStep_101 rfl rfl ?_
            refine bw_iconst (v := 1) dX12_readStep_102 (by decide) ?_
            refine bw_iadd dX12_readStep_103 ?_
            refine bw_aload_n (i := 0) dX12_readStep_104 rfl rfl ?_
            refine bw_iload_n (i := 2) dX12_readStep_105 rfl rfl ?_
            refine bw_iconst (v := 2) dX12_readStep_106 (by decide) ?_
            refine bw_icmp_ne (tgt := 114) dX12_readStep_107 (by decide) (fun _ => ?_) (fun c => absurd c (by decide))
            refine bw_iload_n (i := 2) dX12_readStep_114 rfl rfl ?_
            refine bw_iconst (v := 2) dX12_readStep_115 (by decide) ?_
            refine bw_icmp_ge (tgt := 123) dX12_readStep_116 (by decide) (fun _ => ?_) (fun c => absurd c (by decide))
            refine bw_bipush (v := 9) dX12_readStep_123 (by decide) ?_
            obtain ⟨Q5, hr, h⟩ := h
            refine bw_cVi (As := [.int 9]) (st := [.int ((4 * a0) + 1), .ref 60]) cv_BentWordsModel_191 rfl rfl hr rfl rfl (Nat.le_of_ble_eq_true rfl) dX12_readStep_125 (fun v6 w7 hv => ?_)
            replace h := h v6 w7 hv
            clear hr
            obtain ⟨hi8, h⟩ := h
            refine bw_iastore rfl hi8 dX12_readStep_128 ?_
            refine bw_aload_n (i := 0) dX12_readStep_129 rfl rfl ?_
            refine bw_getr (r := 60) fg_BentWordsModel_38 rfl rfl dX12_readStep_130 ?_
            refine bw_iload_n (i := 3) dX12_readStep_133 rfl rfl ?_
            refine bw_iconst (v := 2) dX12_readStep_134 (by decide) ?_
            refine bw_iadd dX12_readStep_135 ?_
            refine bw_iload_n (i := 2) dX12_readStep_136 rfl rfl ?_
            refine bw_if_ne (tgt := 149) dX12_readStep_137 (by decide) (fun _ => ?_) (fun c => absurd c (by decide))
            refine bw_iload_n (i := 2) dX12_readStep_149 rfl rfl ?_
            refine bw_iconst (v := 2) dX12_readStep_150 (by decide) ?_
            refine bw_icmp_le (tgt := 162) dX12_readStep_151 (by decide) (fun c => absurd c (by decide)) (fun _ => ?_)
            refine bw_aload_n (i := 0) dX12_readStep_154 rfl rfl ?_
            refine bw_iconst (v := 3) dX12_readStep_155 (by decide) ?_
            obtain ⟨Q9, hr, h⟩ := h
            refine bw_cVi (As := [.int 3]) (st := [.int ((4 * a0) + 2), .ref 60]) cv_BentWordsModel_191 rfl rfl hr rfl rfl (Nat.le_of_ble_eq_true rfl) dX12_readStep_156 (fun v10 w11 hv => ?_)
            replace h := h v10 w11 hv
            clear hr
            refine bw_goto (tgt := 165) dX12_readStep_159 (by decide) ?_
            obtain ⟨hi12, h⟩ := h
            refine bw_iastore rfl hi12 dX12_readStep_165 ?_
            refine bw_aload_n (i := 0) dX12_readStep_166 rfl rfl ?_
            refine bw_getr (r := 60) fg_BentWordsModel_38 rfl rfl dX12_readStep_167 ?_
            refine bw_iload_n (i := 3) dX12_readStep_170 rfl rfl ?_
            refine bw_iconst (v := 3) dX12_readStep_171 (by decide) ?_
            refine bw_iadd dX12_readStep_172 ?_
            refine bw_iload_n (i := 2) dX12_readStep_173 rfl rfl ?_
            refine bw_if_ne (tgt := 187) dX12_readStep_174 (by decide) (fun _ => ?_) (fun c => absurd c (by decide))
            refine bw_iload_n (i := 2) dX12_readStep_187 rfl rfl ?_
            refine bw_iconst (v := 2) dX12_readStep_188 (by decide) ?_
            refine bw_icmp_le (tgt := 200) dX12_readStep_189 (by decide) (fun c => absurd c (by decide)) (fun _ => ?_)
            refine bw_aload_n (i := 0) dX12_readStep_192 rfl rfl ?_
            refine bw_iconst (v := 1) dX12_readStep_193 (by decide) ?_
            obtain ⟨Q13, hr, h⟩ := h
            refine bw_cVi (As := [.int 1]) (st := [.int ((4 * a0) + 3), .ref 60]) cv_BentWordsModel_191 rfl rfl hr rfl rfl (Nat.le_of_ble_eq_true rfl) dX12_readStep_194 (fun v14 w15 hv => ?_)
            replace h := h v14 w15 hv
            clear hr
            refine bw_goto (tgt := 203) dX12_readStep_197 (by decide) ?_
            obtain ⟨hi16, h⟩ := h
            refine bw_iastore rfl hi16 dX12_readStep_203 ?_
            refine bw_aload_n (i := 0) dX12_readStep_204 rfl rfl ?_
            refine bw_getr (r := 61) fg_BentWordsModel_41 rfl rfl dX12_readStep_205 ?_
            refine bw_iload_n (i := 1) dX12_readStep_208 rfl rfl ?_
            refine bw_iload_n (i := 2) dX12_readStep_209 rfl rfl ?_
            refine bw_iconst (v := 3) dX12_readStep_210 (by decide) ?_
            refine bw_icmp_ne (tgt := 221) dX12_readStep_211 (by decide) (fun _ => ?_) (fun c => absurd c (by decide))
            refine bw_lconst (v := 0) dX12_readStep_221 rfl ?_
            obtain ⟨hi17, h⟩ := h
            refine bw_lastore rfl hi17 dX12_readStep_222 ?_
            exact bw_return dX12_readStep_223 rfl ⟨rfl, h⟩
        · replace h := h.2 (of_decide_eq_true c)
          refine bw_iconst (v := 3) dX12_readStep_52 (by decide) ?_
          refine bw_goto (tgt := 71) dX12_readStep_53 (by decide) ?_
          refine bw_istore_n (i := 2) (L' := [some (.ref 50), some (.int a0), some (.int 3), none]) dX12_readStep_71 rfl (Nat.le_of_ble_eq_true rfl) rfl ?_
          refine bw_iload_n (i := 2) dX12_readStep_72 rfl rfl ?_
          refine bw_iconst (v := (-1)) dX12_readStep_73 (by decide) ?_
          refine bw_icmp_ne (tgt := 82) dX12_readStep_74 (by decide) (fun _ => ?_) (fun c => absurd c (by decide))
          refine bw_aload_n (i := 0) dX12_readStep_82 rfl rfl ?_
          obtain ⟨Q18, hr, h⟩ := h
          refine bw_cVv (As := []) (st := []) cv_BentWordsModel_160 rfl rfl hr rfl rfl (Nat.le_of_ble_eq_true rfl) dX12_readStep_83 (fun w20 hv => ?_)
          replace h := h w20 hv
          clear hr
          refine bw_iconst (v := 4) dX12_readStep_86 (by decide) ?_
          refine bw_iload_n (i := 1) dX12_readStep_87 rfl rfl ?_
          refine bw_imul dX12_readStep_88 ?_
          refine bw_istore_n (i := 3) (L' := [some (.ref 50), some (.int a0), some (.int 3), some (.int (4 * a0))]) dX12_readStep_89 rfl (Nat.le_of_ble_eq_true rfl) rfl ?_
          refine bw_aload_n (i := 0) dX12_readStep_90 rfl rfl ?_
          refine bw_getr (r := 60) fg_BentWordsModel_38 rfl rfl dX12_readStep_91 ?_
          refine bw_iload_n (i := 3) dX12_readStep_94 rfl rfl ?_
          refine bw_iload_n (i := 2) dX12_readStep_95 rfl rfl ?_
          obtain ⟨hi21, h⟩ := h
          refine bw_iastore rfl hi21 dX12_readStep_96 ?_
          refine bw_aload_n (i := 0) dX12_readStep_97 rfl rfl ?_
          refine bw_getr (r := 60) fg_BentWordsModel_38 rfl rfl dX12_readStep_98 ?_
          refine bw_iload_n (i := 3) dX12_readStep_101 rfl rfl ?_
          refine bw_iconst (v := 1) dX12_readStep_102 (by decide) ?_
          refine bw_iadd dX12_readStep_103 ?_
          refine bw_aload_n (i := 0) dX12_readStep_104 rfl rfl ?_
          refine bw_iload_n (i := 2) dX12_readStep_105 rfl rfl ?_
          refine bw_iconst (v := 2) dX12_readStep_106 (by decide) ?_
          refine bw_icmp_ne (tgt := 114) dX12_readStep_107 (by decide) (fun _ => ?_) (fun c => absurd c (by decide))
          refine bw_iload_n (i := 2) dX12_readStep_114 rfl rfl ?_
          refine bw_iconst (v := 2) dX12_readStep_115 (by decide) ?_
          refine bw_icmp_ge (tgt := 123) dX12_readStep_116 (by decide) (fun _ => ?_) (fun c => absurd c (by decide))
          refine bw_bipush (v := 9) dX12_readStep_123 (by decide) ?_
          obtain ⟨Q22, hr, h⟩ := h
          refine bw_cVi (As := [.int 9]) (st := [.int ((4 * a0) + 1), .ref 60]) cv_BentWordsModel_191 rfl rfl hr rfl rfl (Nat.le_of_ble_eq_true rfl) dX12_readStep_125 (fun v23 w24 hv => ?_)
          replace h := h v23 w24 hv
          clear hr
          obtain ⟨hi25, h⟩ := h
          refine bw_iastore rfl hi25 dX12_readStep_128 ?_
          refine bw_aload_n (i := 0) dX12_readStep_129 rfl rfl ?_
          refine bw_getr (r := 60) fg_BentWordsModel_38 rfl rfl dX12_readStep_130 ?_
          refine bw_iload_n (i := 3) dX12_readStep_133 rfl rfl ?_
          refine bw_iconst (v := 2) dX12_readStep_134 (by decide) ?_
          refine bw_iadd dX12_readStep_135 ?_
          refine bw_iload_n (i := 2) dX12_readStep_136 rfl rfl ?_
          refine bw_if_ne (tgt := 149) dX12_readStep_137 (by decide) (fun _ => ?_) (fun c => absurd c (by decide))
          refine bw_iload_n (i := 2) dX12_readStep_149 rfl rfl ?_
          refine bw_iconst (v := 2) dX12_readStep_150 (by decide) ?_
          refine bw_icmp_le (tgt := 162) dX12_readStep_151 (by decide) (fun c => absurd c (by decide)) (fun _ => ?_)
          refine bw_aload_n (i := 0) dX12_readStep_154 rfl rfl ?_
          refine bw_iconst (v := 3) dX12_readStep_155 (by decide) ?_
          obtain ⟨Q26, hr, h⟩ := h
          refine bw_cVi (As := [.int 3]) (st := [.int ((4 * a0) + 2), .ref 60]) cv_BentWordsModel_191 rfl rfl hr rfl rfl (Nat.le_of_ble_eq_true rfl) dX12_readStep_156 (fun v27 w28 hv => ?_)
          replace h := h v27 w28 hv
          clear hr
          refine bw_goto (tgt := 165) dX12_readStep_159 (by decide) ?_
          obtain ⟨hi29, h⟩ := h
          refine bw_iastore rfl hi29 dX12_readStep_165 ?_
          refine bw_aload_n (i := 0) dX12_readStep_166 rfl rfl ?_
          refine bw_getr (r := 60) fg_BentWordsModel_38 rfl rfl dX12_readStep_167 ?_
          refine bw_iload_n (i := 3) dX12_readStep_170 rfl rfl ?_
          refine bw_iconst (v := 3) dX12_readStep_171 (by decide) ?_
          refine bw_iadd dX12_readStep_172 ?_
          refine bw_iload_n (i := 2) dX12_readStep_173 rfl rfl ?_
          refine bw_if_ne (tgt := 187) dX12_readStep_174 (by decide) (fun _ => ?_) (fun c => absurd c (by decide))
          refine bw_iload_n (i := 2) dX12_readStep_187 rfl rfl ?_
          refine bw_iconst (v := 2) dX12_readStep_188 (by decide) ?_
          refine bw_icmp_le (tgt := 200) dX12_readStep_189 (by decide) (fun c => absurd c (by decide)) (fun _ => ?_)
          refine bw_aload_n (i := 0) dX12_readStep_192 rfl rfl ?_
          refine bw_iconst (v := 1) dX12_readStep_193 (by decide) ?_
          obtain ⟨Q30, hr, h⟩ := h
          refine bw_cVi (As := [.int 1]) (st := [.int ((4 * a0) + 3), .ref 60]) cv_BentWordsModel_191 rfl rfl hr rfl rfl (Nat.le_of_ble_eq_true rfl) dX12_readStep_194 (fun v31 w32 hv => ?_)
          replace h := h v31 w32 hv
          clear hr
          refine bw_goto (tgt := 203) dX12_readStep_197 (by decide) ?_
          obtain ⟨hi33, h⟩ := h
          refine bw_iastore rfl hi33 dX12_readStep_203 ?_
          refine bw_aload_n (i := 0) dX12_readStep_204 rfl rfl ?_
          refine bw_getr (r := 61) fg_BentWordsModel_41 rfl rfl dX12_readStep_205 ?_
          refine bw_iload_n (i := 1) dX12_readStep_208 rfl rfl ?_
          refine bw_iload_n (i := 2) dX12_readStep_209 rfl rfl ?_
          refine bw_iconst (v := 3) dX12_readStep_210 (by decide) ?_
          refine bw_icmp_ne (tgt := 221) dX12_readStep_211 (by decide) (fun c => absurd c (by decide)) (fun _ => ?_)
          refine bw_aload_n (i := 0) dX12_readStep_214 rfl rfl ?_
          obtain ⟨Q34, hr, h⟩ := h
          refine bw_cVl (As := []) (st := [.int a0, .ref 61]) cv_BentWordsModel_187 rfl rfl hr rfl rfl (Nat.le_of_ble_eq_true rfl) dX12_readStep_215 (fun v35 w36 hv => ?_)
          replace h := h v35 w36 hv
          clear hr
          refine bw_goto (tgt := 222) dX12_readStep_218 (by decide) ?_
          obtain ⟨hi37, h⟩ := h
          refine bw_lastore rfl hi37 dX12_readStep_222 ?_
          exact bw_return dX12_readStep_223 rfl ⟨rfl, h⟩
      · replace h := h.2 (of_decide_eq_true c)
        refine bw_iconst (v := 2) dX12_readStep_38 (by decide) ?_
        refine bw_goto (tgt := 71) dX12_readStep_39 (by decide) ?_
        refine bw_istore_n (i := 2) (L' := [some (.ref 50), some (.int a0), some (.int 2), none]) dX12_readStep_71 rfl (Nat.le_of_ble_eq_true rfl) rfl ?_
        refine bw_iload_n (i := 2) dX12_readStep_72 rfl rfl ?_
        refine bw_iconst (v := (-1)) dX12_readStep_73 (by decide) ?_
        refine bw_icmp_ne (tgt := 82) dX12_readStep_74 (by decide) (fun _ => ?_) (fun c => absurd c (by decide))
        refine bw_aload_n (i := 0) dX12_readStep_82 rfl rfl ?_
        obtain ⟨Q38, hr, h⟩ := h
        refine bw_cVv (As := []) (st := []) cv_BentWordsModel_160 rfl rfl hr rfl rfl (Nat.le_of_ble_eq_true rfl) dX12_readStep_83 (fun w40 hv => ?_)
        replace h := h w40 hv
        clear hr
        refine bw_iconst (v := 4) dX12_readStep_86 (by decide) ?_
        refine bw_iload_n (i := 1) dX12_readStep_87 rfl rfl ?_
        refine bw_imul dX12_readStep_88 ?_
        refine bw_istore_n (i := 3) (L' := [some (.ref 50), some (.int a0), some (.int 2), some (.int (4 * a0))]) dX12_readStep_89 rfl (Nat.le_of_ble_eq_true rfl) rfl ?_
        refine bw_aload_n (i := 0) dX12_readStep_90 rfl rfl ?_
        refine bw_getr (r := 60) fg_BentWordsModel_38 rfl rfl dX12_readStep_91 ?_
        refine bw_iload_n (i := 3) dX12_readStep_94 rfl rfl ?_
        refine bw_iload_n (i := 2) dX12_readStep_95 rfl rfl ?_
        obtain ⟨hi41, h⟩ := h
        refine bw_iastore rfl hi41 dX12_readStep_96 ?_
        refine bw_aload_n (i := 0) dX12_readStep_97 rfl rfl ?_
        refine bw_getr (r := 60) fg_BentWordsModel_38 rfl rfl dX12_readStep_98 ?_
        refine bw_iload_n (i := 3) dX12_readStep_101 rfl rfl ?_
        refine bw_iconst (v := 1) dX12_readStep_102 (by decide) ?_
        refine bw_iadd dX12_readStep_103 ?_
        refine bw_aload_n (i := 0) dX12_readStep_104 rfl rfl ?_
        refine bw_iload_n (i := 2) dX12_readStep_105 rfl rfl ?_
        refine bw_iconst (v := 2) dX12_readStep_106 (by decide) ?_
        refine bw_icmp_ne (tgt := 114) dX12_readStep_107 (by decide) (fun c => absurd c (by decide)) (fun _ => ?_)
        refine bw_iconst (v := 1) dX12_readStep_110 (by decide) ?_
        refine bw_goto (tgt := 125) dX12_readStep_111 (by decide) ?_
        obtain ⟨Q42, hr, h⟩ := h
        refine bw_cVi (As := [.int 1]) (st := [.int ((4 * a0) + 1), .ref 60]) cv_BentWordsModel_191 rfl rfl hr rfl rfl (Nat.le_of_ble_eq_true rfl) dX12_readStep_125 (fun v43 w44 hv => ?_)
        replace h := h v43 w44 hv
        clear hr
        obtain ⟨hi45, h⟩ := h
        refine bw_iastore rfl hi45 dX12_readStep_128 ?_
        refine bw_aload_n (i := 0) dX12_readStep_129 rfl rfl ?_
        refine bw_getr (r := 60) fg_BentWordsModel_38 rfl rfl dX12_readStep_130 ?_
        refine bw_iload_n (i := 3) dX12_readStep_133 rfl rfl ?_
        refine bw_iconst (v := 2) dX12_readStep_134 (by decide) ?_
        refine bw_iadd dX12_readStep_135 ?_
        refine bw_iload_n (i := 2) dX12_readStep_136 rfl rfl ?_
        refine bw_if_ne (tgt := 149) dX12_readStep_137 (by decide) (fun _ => ?_) (fun c => absurd c (by decide))
        refine bw_iload_n (i := 2) dX12_readStep_149 rfl rfl ?_
        refine bw_iconst (v := 2) dX12_readStep_150 (by decide) ?_
        refine bw_icmp_le (tgt := 162) dX12_readStep_151 (by decide) (fun _ => ?_) (fun c => absurd c (by decide))
        refine bw_ldcw ki_BentWordsModel_259 dX12_readStep_162 ?_
        obtain ⟨hi46, h⟩ := h
        refine bw_iastore rfl hi46 dX12_readStep_165 ?_
        refine bw_aload_n (i := 0) dX12_readStep_166 rfl rfl ?_
        refine bw_getr (r := 60) fg_BentWordsModel_38 rfl rfl dX12_readStep_167 ?_
        refine bw_iload_n (i := 3) dX12_readStep_170 rfl rfl ?_
        refine bw_iconst (v := 3) dX12_readStep_171 (by decide) ?_
        refine bw_iadd dX12_readStep_172 ?_
        refine bw_iload_n (i := 2) dX12_readStep_173 rfl rfl ?_
        refine bw_if_ne (tgt := 187) dX12_readStep_174 (by decide) (fun _ => ?_) (fun c => absurd c (by decide))
        refine bw_iload_n (i := 2) dX12_readStep_187 rfl rfl ?_
        refine bw_iconst (v := 2) dX12_readStep_188 (by decide) ?_
        refine bw_icmp_le (tgt := 200) dX12_readStep_189 (by decide) (fun _ => ?_) (fun c => absurd c (by decide))
        refine bw_ldcw ki_BentWordsModel_259 dX12_readStep_200 ?_
        obtain ⟨hi47, h⟩ := h
        refine bw_iastore rfl hi47 dX12_readStep_203 ?_
        refine bw_aload_n (i := 0) dX12_readStep_204 rfl rfl ?_
        refine bw_getr (r := 61) fg_BentWordsModel_41 rfl rfl dX12_readStep_205 ?_
        refine bw_iload_n (i := 1) dX12_readStep_208 rfl rfl ?_
        refine bw_iload_n (i := 2) dX12_readStep_209 rfl rfl ?_
        refine bw_iconst (v := 3) dX12_readStep_210 (by decide) ?_
        refine bw_icmp_ne (tgt := 221) dX12_readStep_211 (by decide) (fun _ => ?_) (fun c => absurd c (by decide))
        refine bw_lconst (v := 0) dX12_readStep_221 rfl ?_
        obtain ⟨hi48, h⟩ := h
        refine bw_lastore rfl hi48 dX12_readStep_222 ?_
        exact bw_return dX12_readStep_223 rfl ⟨rfl, h⟩
    · replace h := h.2 (of_decide_eq_true c)
      refine bw_iconst (v := 1) dX12_readStep_24 (by decide) ?_
      refine bw_goto (tgt := 71) dX12_readStep_25 (by decide) ?_
      refine bw_istore_n (i := 2) (L' := [some (.ref 50), some (.int a0), some (.int 1), none]) dX12_readStep_71 rfl (Nat.le_of_ble_eq_true rfl) rfl ?_
      refine bw_iload_n (i := 2) dX12_readStep_72 rfl rfl ?_
      refine bw_iconst (v := (-1)) dX12_readStep_73 (by decide) ?_
      refine bw_icmp_ne (tgt := 82) dX12_readStep_74 (by decide) (fun _ => ?_) (fun c => absurd c (by decide))
      refine bw_aload_n (i := 0) dX12_readStep_82 rfl rfl ?_
      obtain ⟨Q49, hr, h⟩ := h
      refine bw_cVv (As := []) (st := []) cv_BentWordsModel_160 rfl rfl hr rfl rfl (Nat.le_of_ble_eq_true rfl) dX12_readStep_83 (fun w51 hv => ?_)
      replace h := h w51 hv
      clear hr
      refine bw_iconst (v := 4) dX12_readStep_86 (by decide) ?_
      refine bw_iload_n (i := 1) dX12_readStep_87 rfl rfl ?_
      refine bw_imul dX12_readStep_88 ?_
      refine bw_istore_n (i := 3) (L' := [some (.ref 50), some (.int a0), some (.int 1), some (.int (4 * a0))]) dX12_readStep_89 rfl (Nat.le_of_ble_eq_true rfl) rfl ?_
      refine bw_aload_n (i := 0) dX12_readStep_90 rfl rfl ?_
      refine bw_getr (r := 60) fg_BentWordsModel_38 rfl rfl dX12_readStep_91 ?_
      refine bw_iload_n (i := 3) dX12_readStep_94 rfl rfl ?_
      refine bw_iload_n (i := 2) dX12_readStep_95 rfl rfl ?_
      obtain ⟨hi52, h⟩ := h
      refine bw_iastore rfl hi52 dX12_readStep_96 ?_
      refine bw_aload_n (i := 0) dX12_readStep_97 rfl rfl ?_
      refine bw_getr (r := 60) fg_BentWordsModel_38 rfl rfl dX12_readStep_98 ?_
      refine bw_iload_n (i := 3) dX12_readStep_101 rfl rfl ?_
      refine bw_iconst (v := 1) dX12_readStep_102 (by decide) ?_
      refine bw_iadd dX12_readStep_103 ?_
      refine bw_aload_n (i := 0) dX12_readStep_104 rfl rfl ?_
      refine bw_iload_n (i := 2) dX12_readStep_105 rfl rfl ?_
      refine bw_iconst (v := 2) dX12_readStep_106 (by decide) ?_
      refine bw_icmp_ne (tgt := 114) dX12_readStep_107 (by decide) (fun _ => ?_) (fun c => absurd c (by decide))
      refine bw_iload_n (i := 2) dX12_readStep_114 rfl rfl ?_
      refine bw_iconst (v := 2) dX12_readStep_115 (by decide) ?_
      refine bw_icmp_ge (tgt := 123) dX12_readStep_116 (by decide) (fun c => absurd c (by decide)) (fun _ => ?_)
      refine bw_iconst (v := 2) dX12_readStep_119 (by decide) ?_
      refine bw_goto (tgt := 125) dX12_readStep_120 (by decide) ?_
      obtain ⟨Q53, hr, h⟩ := h
      refine bw_cVi (As := [.int 2]) (st := [.int ((4 * a0) + 1), .ref 60]) cv_BentWordsModel_191 rfl rfl hr rfl rfl (Nat.le_of_ble_eq_true rfl) dX12_readStep_125 (fun v54 w55 hv => ?_)
      replace h := h v54 w55 hv
      clear hr
      obtain ⟨hi56, h⟩ := h
      refine bw_iastore rfl hi56 dX12_readStep_128 ?_
      refine bw_aload_n (i := 0) dX12_readStep_129 rfl rfl ?_
      refine bw_getr (r := 60) fg_BentWordsModel_38 rfl rfl dX12_readStep_130 ?_
      refine bw_iload_n (i := 3) dX12_readStep_133 rfl rfl ?_
      refine bw_iconst (v := 2) dX12_readStep_134 (by decide) ?_
      refine bw_iadd dX12_readStep_135 ?_
      refine bw_iload_n (i := 2) dX12_readStep_136 rfl rfl ?_
      refine bw_if_ne (tgt := 149) dX12_readStep_137 (by decide) (fun _ => ?_) (fun c => absurd c (by decide))
      refine bw_iload_n (i := 2) dX12_readStep_149 rfl rfl ?_
      refine bw_iconst (v := 2) dX12_readStep_150 (by decide) ?_
      refine bw_icmp_le (tgt := 162) dX12_readStep_151 (by decide) (fun _ => ?_) (fun c => absurd c (by decide))
      refine bw_ldcw ki_BentWordsModel_259 dX12_readStep_162 ?_
      obtain ⟨hi57, h⟩ := h
      refine bw_iastore rfl hi57 dX12_readStep_165 ?_
      refine bw_aload_n (i := 0) dX12_readStep_166 rfl rfl ?_
      refine bw_getr (r := 60) fg_BentWordsModel_38 rfl rfl dX12_readStep_167 ?_
      refine bw_iload_n (i := 3) dX12_readStep_170 rfl rfl ?_
      refine bw_iconst (v := 3) dX12_readStep_171 (by decide) ?_
      refine bw_iadd dX12_readStep_172 ?_
      refine bw_iload_n (i := 2) dX12_readStep_173 rfl rfl ?_
      refine bw_if_ne (tgt := 187) dX12_readStep_174 (by decide) (fun _ => ?_) (fun c => absurd c (by decide))
      refine bw_iload_n (i := 2) dX12_readStep_187 rfl rfl ?_
      refine bw_iconst (v := 2) dX12_readStep_188 (by decide) ?_
      refine bw_icmp_le (tgt := 200) dX12_readStep_189 (by decide) (fun _ => ?_) (fun c => absurd c (by decide))
      refine bw_ldcw ki_BentWordsModel_259 dX12_readStep_200 ?_
      obtain ⟨hi58, h⟩ := h
      refine bw_iastore rfl hi58 dX12_readStep_203 ?_
      refine bw_aload_n (i := 0) dX12_readStep_204 rfl rfl ?_
      refine bw_getr (r := 61) fg_BentWordsModel_41 rfl rfl dX12_readStep_205 ?_
      refine bw_iload_n (i := 1) dX12_readStep_208 rfl rfl ?_
      refine bw_iload_n (i := 2) dX12_readStep_209 rfl rfl ?_
      refine bw_iconst (v := 3) dX12_readStep_210 (by decide) ?_
      refine bw_icmp_ne (tgt := 221) dX12_readStep_211 (by decide) (fun _ => ?_) (fun c => absurd c (by decide))
      refine bw_lconst (v := 0) dX12_readStep_221 rfl ?_
      obtain ⟨hi59, h⟩ := h
      refine bw_lastore rfl hi59 dX12_readStep_222 ?_
      exact bw_return dX12_readStep_223 rfl ⟨rfl, h⟩
  · replace h := h.2 (of_decide_eq_true c)
    refine bw_iconst (v := 0) dX12_readStep_10 (by decide) ?_
    refine bw_goto (tgt := 71) dX12_readStep_11 (by decide) ?_
    refine bw_istore_n (i := 2) (L' := [some (.ref 50), some (.int a0), some (.int 0), none]) dX12_readStep_71 rfl (Nat.le_of_ble_eq_true rfl) rfl ?_
    refine bw_iload_n (i := 2) dX12_readStep_72 rfl rfl ?_
    refine bw_iconst (v := (-1)) dX12_readStep_73 (by decide) ?_
    refine bw_icmp_ne (tgt := 82) dX12_readStep_74 (by decide) (fun _ => ?_) (fun c => absurd c (by decide))
    refine bw_aload_n (i := 0) dX12_readStep_82 rfl rfl ?_
    obtain ⟨Q60, hr, h⟩ := h
    refine bw_cVv (As := []) (st := []) cv_BentWordsModel_160 rfl rfl hr rfl rfl (Nat.le_of_ble_eq_true rfl) dX12_readStep_83 (fun w62 hv => ?_)
    replace h := h w62 hv
    clear hr
    refine bw_iconst (v := 4) dX12_readStep_86 (by decide) ?_
    refine bw_iload_n (i := 1) dX12_readStep_87 rfl rfl ?_
    refine bw_imul dX12_readStep_88 ?_
    refine bw_istore_n (i := 3) (L' := [some (.ref 50), some (.int a0), some (.int 0), some (.int (4 * a0))]) dX12_readStep_89 rfl (Nat.le_of_ble_eq_true rfl) rfl ?_
    refine bw_aload_n (i := 0) dX12_readStep_90 rfl rfl ?_
    refine bw_getr (r := 60) fg_BentWordsModel_38 rfl rfl dX12_readStep_91 ?_
    refine bw_iload_n (i := 3) dX12_readStep_94 rfl rfl ?_
    refine bw_iload_n (i := 2) dX12_readStep_95 rfl rfl ?_
    obtain ⟨hi63, h⟩ := h
    refine bw_iastore rfl hi63 dX12_readStep_96 ?_
    refine bw_aload_n (i := 0) dX12_readStep_97 rfl rfl ?_
    refine bw_getr (r := 60) fg_BentWordsModel_38 rfl rfl dX12_readStep_98 ?_
    refine bw_iload_n (i := 3) dX12_readStep_101 rfl rfl ?_
    refine bw_iconst (v := 1) dX12_readStep_102 (by decide) ?_
    refine bw_iadd dX12_readStep_103 ?_
    refine bw_aload_n (i := 0) dX12_readStep_104 rfl rfl ?_
    refine bw_iload_n (i := 2) dX12_readStep_105 rfl rfl ?_
    refine bw_iconst (v := 2) dX12_readStep_106 (by decide) ?_
    refine bw_icmp_ne (tgt := 114) dX12_readStep_107 (by decide) (fun _ => ?_) (fun c => absurd c (by decide))
    refine bw_iload_n (i := 2) dX12_readStep_114 rfl rfl ?_
    refine bw_iconst (v := 2) dX12_readStep_115 (by decide) ?_
    refine bw_icmp_ge (tgt := 123) dX12_readStep_116 (by decide) (fun c => absurd c (by decide)) (fun _ => ?_)
    refine bw_iconst (v := 2) dX12_readStep_119 (by decide) ?_
    refine bw_goto (tgt := 125) dX12_readStep_120 (by decide) ?_
    obtain ⟨Q64, hr, h⟩ := h
    refine bw_cVi (As := [.int 2]) (st := [.int ((4 * a0) + 1), .ref 60]) cv_BentWordsModel_191 rfl rfl hr rfl rfl (Nat.le_of_ble_eq_true rfl) dX12_readStep_125 (fun v65 w66 hv => ?_)
    replace h := h v65 w66 hv
    clear hr
    obtain ⟨hi67, h⟩ := h
    refine bw_iastore rfl hi67 dX12_readStep_128 ?_
    refine bw_aload_n (i := 0) dX12_readStep_129 rfl rfl ?_
    refine bw_getr (r := 60) fg_BentWordsModel_38 rfl rfl dX12_readStep_130 ?_
    refine bw_iload_n (i := 3) dX12_readStep_133 rfl rfl ?_
    refine bw_iconst (v := 2) dX12_readStep_134 (by decide) ?_
    refine bw_iadd dX12_readStep_135 ?_
    refine bw_iload_n (i := 2) dX12_readStep_136 rfl rfl ?_
    refine bw_if_ne (tgt := 149) dX12_readStep_137 (by decide) (fun c => absurd c (by decide)) (fun _ => ?_)
    refine bw_aload_n (i := 0) dX12_readStep_140 rfl rfl ?_
    refine bw_bipush (v := 9) dX12_readStep_141 (by decide) ?_
    obtain ⟨Q68, hr, h⟩ := h
    refine bw_cVi (As := [.int 9]) (st := [.int ((4 * a0) + 2), .ref 60]) cv_BentWordsModel_191 rfl rfl hr rfl rfl (Nat.le_of_ble_eq_true rfl) dX12_readStep_143 (fun v69 w70 hv => ?_)
    replace h := h v69 w70 hv
    clear hr
    refine bw_goto (tgt := 165) dX12_readStep_146 (by decide) ?_
    obtain ⟨hi71, h⟩ := h
    refine bw_iastore rfl hi71 dX12_readStep_165 ?_
    refine bw_aload_n (i := 0) dX12_readStep_166 rfl rfl ?_
    refine bw_getr (r := 60) fg_BentWordsModel_38 rfl rfl dX12_readStep_167 ?_
    refine bw_iload_n (i := 3) dX12_readStep_170 rfl rfl ?_
    refine bw_iconst (v := 3) dX12_readStep_171 (by decide) ?_
    refine bw_iadd dX12_readStep_172 ?_
    refine bw_iload_n (i := 2) dX12_readStep_173 rfl rfl ?_
    refine bw_if_ne (tgt := 187) dX12_readStep_174 (by decide) (fun c => absurd c (by decide)) (fun _ => ?_)
    refine bw_aload_n (i := 0) dX12_readStep_177 rfl rfl ?_
    refine bw_iconst (v := 2) dX12_readStep_178 (by decide) ?_
    refine bw_bipush (v := 99) dX12_readStep_179 (by decide) ?_
    obtain ⟨Q72, hr, h⟩ := h
    refine bw_cVi (As := [.int 2, .int 99]) (st := [.int ((4 * a0) + 3), .ref 60]) cv_BentWordsModel_170 rfl rfl hr rfl rfl (Nat.le_of_ble_eq_true rfl) dX12_readStep_181 (fun v73 w74 hv => ?_)
    replace h := h v73 w74 hv
    clear hr
    refine bw_goto (tgt := 203) dX12_readStep_184 (by decide) ?_
    obtain ⟨hi75, h⟩ := h
    refine bw_iastore rfl hi75 dX12_readStep_203 ?_
    refine bw_aload_n (i := 0) dX12_readStep_204 rfl rfl ?_
    refine bw_getr (r := 61) fg_BentWordsModel_41 rfl rfl dX12_readStep_205 ?_
    refine bw_iload_n (i := 1) dX12_readStep_208 rfl rfl ?_
    refine bw_iload_n (i := 2) dX12_readStep_209 rfl rfl ?_
    refine bw_iconst (v := 3) dX12_readStep_210 (by decide) ?_
    refine bw_icmp_ne (tgt := 221) dX12_readStep_211 (by decide) (fun _ => ?_) (fun c => absurd c (by decide))
    refine bw_lconst (v := 0) dX12_readStep_221 rfl ?_
    obtain ⟨hi76, h⟩ := h
    refine bw_lastore rfl hi76 dX12_readStep_222 ?_
    exact bw_return dX12_readStep_223 rfl ⟨rfl, h⟩
theorem wfX12_tellsNow_12 {E : bw_E} {d : Nat} {w : bw_W} {Q : Bool → bw_W → Prop} {l1 : Int32} {l2 : Int32}  (h : (vp_in l1 4) ∧
(((gw_i w 68 (l1.toNatClampNeg)) ≤ l2 → ((¬ (gw_i w 50 40) = (-1) → Q false w) ∧ ((gw_i w 50 40) = (-1) → Q true w))) ∧ (¬ ((gw_i w 68 (l1.toNatClampNeg)) ≤ l2) → ((¬ (gw_i w 50 40) = (-1) → ((¬ (gw_i w 50 40) = (-1) → Q false w) ∧ ((gw_i w 50 40) = (-1) → Q true w))) ∧ ((gw_i w 50 40) = (-1) → (vp_in ((3 * ((8 * l1) + l2)) + 1) 96) ∧
(vp_in ((3 * ((8 * l1) + l2)) + 2) 96) ∧
(vp_in (3 * ((8 * l1) + l2)) 96) ∧
(∃ Q5 : Int32 → bw_W → Prop, bw_ri E (d + 4) mX12_whyItemNot [.ref 50, .int (gw_i w 69 ((3 * ((8 * l1) + l2)).toNatClampNeg)), .int (gw_i w 69 (((3 * ((8 * l1) + l2)) + 1).toNatClampNeg)), .int (gw_i w 69 (((3 * ((8 * l1) + l2)) + 2).toNatClampNeg))] w Q5 ∧ ∀ v6 w7, Q5 v6 w7 →
((¬ v6 = (-1) → ((v6 = 2 → bw_G E (d + 5) mX12_tellsNow 12 [some (.ref 50), some (.int l1), some (.int (l2 + 1)), none, none, none, none, none] [] (sw_i (sw_i (sw_i w7 50 38 l2) 50 39 (gw_i w 69 (((3 * ((8 * l1) + l2)) + 2).toNatClampNeg))) 50 40 v6) (bw_qb Q)) ∧ (¬ (v6 = 2) → ((v6 = 3 → bw_G E (d + 5) mX12_tellsNow 12 [some (.ref 50), some (.int l1), some (.int (l2 + 1)), none, none, none, none, none] [] (sw_i (sw_i (sw_i w7 50 38 l2) 50 39 (gw_i w 69 (((3 * ((8 * l1) + l2)) + 2).toNatClampNeg))) 50 40 v6) (bw_qb Q)) ∧ (¬ (v6 = 3) → ((¬ v6 = 0 → bw_G E (d + 5) mX12_tellsNow 12 [some (.ref 50), some (.int l1), some (.int (l2 + 1)), none, none, none, none, none] [] (sw_i (sw_i (sw_i w7 50 38 l2) 50 39 (gw_i w 69 (((3 * ((8 * l1) + l2)) + 1).toNatClampNeg))) 50 40 v6) (bw_qb Q)) ∧ (v6 = 0 → (((vp_in (1 + (2 * (gw_i w 69 (((3 * ((8 * l1) + l2)) + 1).toNatClampNeg)))) 236))) ∧
(((vX12_nounIn w7 (gw_i w 69 (((3 * ((8 * l1) + l2)) + 1).toNatClampNeg))) = (-1) → bw_G E (d + 5) mX12_tellsNow 12 [some (.ref 50), some (.int l1), some (.int (l2 + 1)), none, none, none, none, none] [] (sw_i (sw_i (sw_i w7 50 38 l2) 50 39 (gw_i w 69 (((3 * ((8 * l1) + l2)) + 1).toNatClampNeg))) 50 40 v6) (bw_qb Q)) ∧ (¬ ((vX12_nounIn w7 (gw_i w 69 (((3 * ((8 * l1) + l2)) + 1).toNatClampNeg))) = (-1)) → bw_G E (d + 5) mX12_tellsNow 12 [some (.ref 50), some (.int l1), some (.int (l2 + 1)), none, none, none, none, none] [] (sw_i (sw_i (sw_i w7 50 38 l2) 50 39 (gw_i w 69 (((3 * ((8 * l1) + l2)) + 2).toNatClampNeg))) 50 40 v6) (bw_qb Q)))))))))) ∧ (v6 = (-1) → (∃ Q9 : bw_W → Prop, bw_rv E (d + 4) mX12_saysItem [.ref 50, .int ((8 * l1) + l2)] w7 Q9 ∧ ∀ w11, Q9 w11 →
bw_G E (d + 5) mX12_tellsNow 12 [some (.ref 50), some (.int l1), some (.int (l2 + 1)), none, none, none, none, none] [] w11 (bw_qb Q)))))))))) : bw_G E (d + 5) mX12_tellsNow 12 [some (.ref 50), some (.int l1), some (.int l2), none, none, none, none, none] [] w (bw_qb Q) := by
  refine bw_iload_n (i := 2) dX12_tellsNow_12 rfl rfl ?_
  refine bw_aload_n (i := 0) dX12_tellsNow_13 rfl rfl ?_
  refine bw_getr (r := 68) fg_BentWordsModel_62 rfl rfl dX12_tellsNow_14 ?_
  refine bw_iload_n (i := 1) dX12_tellsNow_17 rfl rfl ?_
  obtain ⟨hi1, h⟩ := h
  refine bw_iaload rfl hi1 dX12_tellsNow_18 ?_
  refine bw_icmp_ge (tgt := 152) dX12_tellsNow_19 (by decide) (fun c => ?_) (fun c => ?_)
  · replace h := h.1 (c)
    refine bw_aload_n (i := 0) dX12_tellsNow_152 rfl rfl ?_
    refine bw_geti fg_BentWordsModel_327 rfl dX12_tellsNow_153 ?_
    refine bw_iconst (v := (-1)) dX12_tellsNow_156 (by decide) ?_
    refine bw_icmp_ne (tgt := 164) dX12_tellsNow_157 (by decide) (fun c => ?_) (fun c => ?_)
    · replace h := h.1 (c)
      refine bw_iconst (v := 0) dX12_tellsNow_164 (by decide) ?_
      exact bw_ireturn dX12_tellsNow_165 rfl (bw_nb false) ⟨false, rfl, h⟩
    · replace h := h.2 (c)
      refine bw_iconst (v := 1) dX12_tellsNow_160 (by decide) ?_
      refine bw_goto (tgt := 165) dX12_tellsNow_161 (by decide) ?_
      exact bw_ireturn dX12_tellsNow_165 rfl (bw_nb true) ⟨true, rfl, h⟩
  · replace h := h.2 (c)
    refine bw_aload_n (i := 0) dX12_tellsNow_22 rfl rfl ?_
    refine bw_geti fg_BentWordsModel_327 rfl dX12_tellsNow_23 ?_
    refine bw_iconst (v := (-1)) dX12_tellsNow_26 (by decide) ?_
    refine bw_icmp_ne (tgt := 152) dX12_tellsNow_27 (by decide) (fun c => ?_) (fun c => ?_)
    · replace h := h.1 (c)
      refine bw_aload_n (i := 0) dX12_tellsNow_152 rfl rfl ?_
      refine bw_geti fg_BentWordsModel_327 rfl dX12_tellsNow_153 ?_
      refine bw_iconst (v := (-1)) dX12_tellsNow_156 (by decide) ?_
      refine bw_icmp_ne (tgt := 164) dX12_tellsNow_157 (by decide) (fun c => ?_) (fun c => ?_)
      · replace h := h.1 (c)
        refine bw_iconst (v := 0) dX12_tellsNow_164 (by decide) ?_
        exact bw_ireturn dX12_tellsNow_165 rfl (bw_nb false) ⟨false, rfl, h⟩
      · replace h := h.2 (c)
        refine bw_iconst (v := 1) dX12_tellsNow_160 (by decide) ?_
        refine bw_goto (tgt := 165) dX12_tellsNow_161 (by decide) ?_
        exact bw_ireturn dX12_tellsNow_165 rfl (bw_nb true) ⟨true, rfl, h⟩
    · replace h := h.2 (c)
      refine bw_bipush (v := 8) dX12_tellsNow_30 (by decide) ?_
      refine bw_iload_n (i := 1) dX12_tellsNow_32 rfl rfl ?_
      refine bw_imul dX12_tellsNow_33 ?_
      refine bw_iload_n (i := 2) dX12_tellsNow_34 rfl rfl ?_
      refine bw_iadd dX12_tellsNow_35 ?_
      refine bw_istore_n (i := 3) (L' := [some (.ref 50), some (.int l1), some (.int l2), some (.int ((8 * l1) + l2)), none, none, none, none]) dX12_tellsNow_36 rfl (Nat.le_of_ble_eq_true rfl) rfl ?_
      refine bw_aload_n (i := 0) dX12_tellsNow_37 rfl rfl ?_
      refine bw_getr (r := 69) fg_BentWordsModel_65 rfl rfl dX12_tellsNow_38 ?_
      refine bw_iconst (v := 3) dX12_tellsNow_41 (by decide) ?_
      refine bw_iload_n (i := 3) dX12_tellsNow_42 rfl rfl ?_
      refine bw_imul dX12_tellsNow_43 ?_
      refine bw_iconst (v := 1) dX12_tellsNow_44 (by decide) ?_
      refine bw_iadd dX12_tellsNow_45 ?_
      obtain ⟨hi2, h⟩ := h
      refine bw_iaload rfl hi2 dX12_tellsNow_46 ?_
      refine bw_istore (i := 4) (L' := [some (.ref 50), some (.int l1), some (.int l2), some (.int ((8 * l1) + l2)), some (.int (gw_i w 69 (((3 * ((8 * l1) + l2)) + 1).toNatClampNeg))), none, none, none]) dX12_tellsNow_47 (Nat.le_of_ble_eq_true rfl) rfl ?_
      refine bw_aload_n (i := 0) dX12_tellsNow_49 rfl rfl ?_
      refine bw_getr (r := 69) fg_BentWordsModel_65 rfl rfl dX12_tellsNow_50 ?_
      refine bw_iconst (v := 3) dX12_tellsNow_53 (by decide) ?_
      refine bw_iload_n (i := 3) dX12_tellsNow_54 rfl rfl ?_
      refine bw_imul dX12_tellsNow_55 ?_
      refine bw_iconst (v := 2) dX12_tellsNow_56 (by decide) ?_
      refine bw_iadd dX12_tellsNow_57 ?_
      obtain ⟨hi3, h⟩ := h
      refine bw_iaload rfl hi3 dX12_tellsNow_58 ?_
      refine bw_istore (i := 5) (L' := [some (.ref 50), some (.int l1), some (.int l2), some (.int ((8 * l1) + l2)), some (.int (gw_i w 69 (((3 * ((8 * l1) + l2)) + 1).toNatClampNeg))), some (.int (gw_i w 69 (((3 * ((8 * l1) + l2)) + 2).toNatClampNeg))), none, none]) dX12_tellsNow_59 (Nat.le_of_ble_eq_true rfl) rfl ?_
      refine bw_aload_n (i := 0) dX12_tellsNow_61 rfl rfl ?_
      refine bw_aload_n (i := 0) dX12_tellsNow_62 rfl rfl ?_
      refine bw_getr (r := 69) fg_BentWordsModel_65 rfl rfl dX12_tellsNow_63 ?_
      refine bw_iconst (v := 3) dX12_tellsNow_66 (by decide) ?_
      refine bw_iload_n (i := 3) dX12_tellsNow_67 rfl rfl ?_
      refine bw_imul dX12_tellsNow_68 ?_
      obtain ⟨hi4, h⟩ := h
      refine bw_iaload rfl hi4 dX12_tellsNow_69 ?_
      refine bw_iload dX12_tellsNow_70 rfl ?_
      refine bw_iload dX12_tellsNow_72 rfl ?_
      obtain ⟨Q5, hr, h⟩ := h
      refine bw_cVi (As := [.int (gw_i w 69 ((3 * ((8 * l1) + l2)).toNatClampNeg)), .int (gw_i w 69 (((3 * ((8 * l1) + l2)) + 1).toNatClampNeg)), .int (gw_i w 69 (((3 * ((8 * l1) + l2)) + 2).toNatClampNeg))]) (st := []) cv_BentWordsModel_354 rfl rfl hr rfl rfl (Nat.le_of_ble_eq_true rfl) dX12_tellsNow_74 (fun v6 w7 hv => ?_)
      replace h := h v6 w7 hv
      clear hr
      refine bw_istore (i := 6) (L' := [some (.ref 50), some (.int l1), some (.int l2), some (.int ((8 * l1) + l2)), some (.int (gw_i w 69 (((3 * ((8 * l1) + l2)) + 1).toNatClampNeg))), some (.int (gw_i w 69 (((3 * ((8 * l1) + l2)) + 2).toNatClampNeg))), some (.int v6), none]) dX12_tellsNow_77 (Nat.le_of_ble_eq_true rfl) rfl ?_
      refine bw_iload dX12_tellsNow_79 rfl ?_
      refine bw_iconst (v := (-1)) dX12_tellsNow_81 (by decide) ?_
      refine bw_icmp_ne (tgt := 93) dX12_tellsNow_82 (by decide) (fun c => ?_) (fun c => ?_)
      · replace h := h.1 (c)
        refine bw_iload dX12_tellsNow_93 rfl ?_
        refine bw_iconst (v := 2) dX12_tellsNow_95 (by decide) ?_
        refine bw_icmp_eq (tgt := 120) dX12_tellsNow_96 (by decide) (fun c => ?_) (fun c => ?_)
        · replace h := h.1 (c)
          refine bw_iconst (v := 1) dX12_tellsNow_120 (by decide) ?_
          refine bw_goto (tgt := 125) dX12_tellsNow_121 (by decide) ?_
          refine bw_istore (i := 7) (L' := [some (.ref 50), some (.int l1), some (.int l2), some (.int ((8 * l1) + l2)), some (.int (gw_i w 69 (((3 * ((8 * l1) + l2)) + 1).toNatClampNeg))), some (.int (gw_i w 69 (((3 * ((8 * l1) + l2)) + 2).toNatClampNeg))), some (.int v6), some (.int 1)]) dX12_tellsNow_125 (Nat.le_of_ble_eq_true rfl) rfl ?_
          refine bw_aload_n (i := 0) dX12_tellsNow_127 rfl rfl ?_
          refine bw_iload_n (i := 2) dX12_tellsNow_128 rfl rfl ?_
          refine bw_iload dX12_tellsNow_129 rfl ?_
          refine bw_if_eq (tgt := 139) dX12_tellsNow_131 (by decide) (fun c => absurd c (by decide)) (fun _ => ?_)
          refine bw_iload dX12_tellsNow_134 rfl ?_
          refine bw_goto (tgt := 141) dX12_tellsNow_136 (by decide) ?_
          refine bw_iload dX12_tellsNow_141 rfl ?_
          refine bw_cVv (As := [.int l2, .int (gw_i w 69 (((3 * ((8 * l1) + l2)) + 2).toNatClampNeg)), .int v6]) (st := []) (Q' := (fun w1 => (sw_i (sw_i (sw_i w7 50 38 l2) 50 39 (gw_i w 69 (((3 * ((8 * l1) + l2)) + 2).toNatClampNeg))) 50 40 v6) = w1)) cv_BentWordsModel_360 rfl rfl (fs_X12_fails (d := d + 4) (a0 := l2) (a1 := (gw_i w 69 (((3 * ((8 * l1) + l2)) + 2).toNatClampNeg))) (a2 := v6)  rfl) rfl rfl (Nat.le_of_ble_eq_true rfl) dX12_tellsNow_143 (fun w1 hv => ?_)
          subst hv
          refine bw_iinc (i := 2) (x := l2) (v := (l2 + 1)) (L' := [some (.ref 50), some (.int l1), some (.int (l2 + 1)), some (.int ((8 * l1) + l2)), some (.int (gw_i w 69 (((3 * ((8 * l1) + l2)) + 1).toNatClampNeg))), some (.int (gw_i w 69 (((3 * ((8 * l1) + l2)) + 2).toNatClampNeg))), some (.int v6), some (.int 1)]) dX12_tellsNow_146 rfl rfl (Nat.le_of_ble_eq_true rfl) rfl ?_
          refine bw_goto (tgt := 12) dX12_tellsNow_149 (by decide) ?_
          exact bw_wk [3, 4, 5, 6, 7] rfl h
        · replace h := h.2 (c)
          refine bw_iload dX12_tellsNow_99 rfl ?_
          refine bw_iconst (v := 3) dX12_tellsNow_101 (by decide) ?_
          refine bw_icmp_eq (tgt := 120) dX12_tellsNow_102 (by decide) (fun c => ?_) (fun c => ?_)
          · replace h := h.1 (c)
            refine bw_iconst (v := 1) dX12_tellsNow_120 (by decide) ?_
            refine bw_goto (tgt := 125) dX12_tellsNow_121 (by decide) ?_
            refine bw_istore (i := 7) (L' := [some (.ref 50), some (.int l1), some (.int l2), some (.int ((8 * l1) + l2)), some (.int (gw_i w 69 (((3 * ((8 * l1) + l2)) + 1).toNatClampNeg))), some (.int (gw_i w 69 (((3 * ((8 * l1) + l2)) + 2).toNatClampNeg))), some (.int v6), some (.int 1)]) dX12_tellsNow_125 (Nat.le_of_ble_eq_true rfl) rfl ?_
            refine bw_aload_n (i := 0) dX12_tellsNow_127 rfl rfl ?_
            refine bw_iload_n (i := 2) dX12_tellsNow_128 rfl rfl ?_
            refine bw_iload dX12_tellsNow_129 rfl ?_
            refine bw_if_eq (tgt := 139) dX12_tellsNow_131 (by decide) (fun c => absurd c (by decide)) (fun _ => ?_)
            refine bw_iload dX12_tellsNow_134 rfl ?_
            refine bw_goto (tgt := 141) dX12_tellsNow_136 (by decide) ?_
            refine bw_iload dX12_tellsNow_141 rfl ?_
            refine bw_cVv (As := [.int l2, .int (gw_i w 69 (((3 * ((8 * l1) + l2)) + 2).toNatClampNeg)), .int v6]) (st := []) (Q' := (fun w1 => (sw_i (sw_i (sw_i w7 50 38 l2) 50 39 (gw_i w 69 (((3 * ((8 * l1) + l2)) + 2).toNatClampNeg))) 50 40 v6) = w1)) cv_BentWordsModel_360 rfl rfl (fs_X12_fails (d := d + 4) (a0 := l2) (a1 := (gw_i w 69 (((3 * ((8 * l1) + l2)) + 2).toNatClampNeg))) (a2 := v6)  rfl) rfl rfl (Nat.le_of_ble_eq_true rfl) dX12_tellsNow_143 (fun w1 hv => ?_)
            subst hv
            refine bw_iinc (i := 2) (x := l2) (v := (l2 + 1)) (L' := [some (.ref 50), some (.int l1), some (.int (l2 + 1)), some (.int ((8 * l1) + l2)), some (.int (gw_i w 69 (((3 * ((8 * l1) + l2)) + 1).toNatClampNeg))), some (.int (gw_i w 69 (((3 * ((8 * l1) + l2)) + 2).toNatClampNeg))), some (.int v6), some (.int 1)]) dX12_tellsNow_146 rfl rfl (Nat.le_of_ble_eq_true rfl) rfl ?_
            refine bw_goto (tgt := 12) dX12_tellsNow_149 (by decide) ?_
            exact bw_wk [3, 4, 5, 6, 7] rfl h
          · replace h := h.2 (c)
            refine bw_iload dX12_tellsNow_105 rfl ?_
            refine bw_if_ne (tgt := 124) dX12_tellsNow_107 (by decide) (fun c => ?_) (fun c => ?_)
            · replace h := h.1 (c)
              refine bw_iconst (v := 0) dX12_tellsNow_124 (by decide) ?_
              refine bw_istore (i := 7) (L' := [some (.ref 50), some (.int l1), some (.int l2), some (.int ((8 * l1) + l2)), some (.int (gw_i w 69 (((3 * ((8 * l1) + l2)) + 1).toNatClampNeg))), some (.int (gw_i w 69 (((3 * ((8 * l1) + l2)) + 2).toNatClampNeg))), some (.int v6), some (.int 0)]) dX12_tellsNow_125 (Nat.le_of_ble_eq_true rfl) rfl ?_
              refine bw_aload_n (i := 0) dX12_tellsNow_127 rfl rfl ?_
              refine bw_iload_n (i := 2) dX12_tellsNow_128 rfl rfl ?_
              refine bw_iload dX12_tellsNow_129 rfl ?_
              refine bw_if_eq (tgt := 139) dX12_tellsNow_131 (by decide) (fun _ => ?_) (fun c => absurd c (by decide))
              refine bw_iload dX12_tellsNow_139 rfl ?_
              refine bw_iload dX12_tellsNow_141 rfl ?_
              refine bw_cVv (As := [.int l2, .int (gw_i w 69 (((3 * ((8 * l1) + l2)) + 1).toNatClampNeg)), .int v6]) (st := []) (Q' := (fun w1 => (sw_i (sw_i (sw_i w7 50 38 l2) 50 39 (gw_i w 69 (((3 * ((8 * l1) + l2)) + 1).toNatClampNeg))) 50 40 v6) = w1)) cv_BentWordsModel_360 rfl rfl (fs_X12_fails (d := d + 4) (a0 := l2) (a1 := (gw_i w 69 (((3 * ((8 * l1) + l2)) + 1).toNatClampNeg))) (a2 := v6)  rfl) rfl rfl (Nat.le_of_ble_eq_true rfl) dX12_tellsNow_143 (fun w1 hv => ?_)
              subst hv
              refine bw_iinc (i := 2) (x := l2) (v := (l2 + 1)) (L' := [some (.ref 50), some (.int l1), some (.int (l2 + 1)), some (.int ((8 * l1) + l2)), some (.int (gw_i w 69 (((3 * ((8 * l1) + l2)) + 1).toNatClampNeg))), some (.int (gw_i w 69 (((3 * ((8 * l1) + l2)) + 2).toNatClampNeg))), some (.int v6), some (.int 0)]) dX12_tellsNow_146 rfl rfl (Nat.le_of_ble_eq_true rfl) rfl ?_
              refine bw_goto (tgt := 12) dX12_tellsNow_149 (by decide) ?_
              exact bw_wk [3, 4, 5, 6, 7] rfl h
            · replace h := h.2 (c)
              refine bw_aload_n (i := 0) dX12_tellsNow_110 rfl rfl ?_
              refine bw_iload dX12_tellsNow_111 rfl ?_
              obtain ⟨hc8, h⟩ := h
              refine bw_cVi (As := [.int (gw_i w 69 (((3 * ((8 * l1) + l2)) + 1).toNatClampNeg))]) (st := []) (Q' := (fun v w1 => (vX12_nounIn w7 (gw_i w 69 (((3 * ((8 * l1) + l2)) + 1).toNatClampNeg))) = v ∧ w7 = w1)) cv_BentWordsModel_330 rfl rfl (fs_X12_nounIn (d := d + 4) (a0 := (gw_i w 69 (((3 * ((8 * l1) + l2)) + 1).toNatClampNeg))) hc8 ⟨rfl, rfl⟩) rfl rfl (Nat.le_of_ble_eq_true rfl) dX12_tellsNow_113 (fun v w1 hv => ?_)
              obtain ⟨rfl, rfl⟩ := hv
              refine bw_iconst (v := (-1)) dX12_tellsNow_116 (by decide) ?_
              refine bw_icmp_eq (tgt := 124) dX12_tellsNow_117 (by decide) (fun c => ?_) (fun c => ?_)
              · replace h := h.1 (c)
                refine bw_iconst (v := 0) dX12_tellsNow_124 (by decide) ?_
                refine bw_istore (i := 7) (L' := [some (.ref 50), some (.int l1), some (.int l2), some (.int ((8 * l1) + l2)), some (.int (gw_i w 69 (((3 * ((8 * l1) + l2)) + 1).toNatClampNeg))), some (.int (gw_i w 69 (((3 * ((8 * l1) + l2)) + 2).toNatClampNeg))), some (.int v6), some (.int 0)]) dX12_tellsNow_125 (Nat.le_of_ble_eq_true rfl) rfl ?_
                refine bw_aload_n (i := 0) dX12_tellsNow_127 rfl rfl ?_
                refine bw_iload_n (i := 2) dX12_tellsNow_128 rfl rfl ?_
                refine bw_iload dX12_tellsNow_129 rfl ?_
                refine bw_if_eq (tgt := 139) dX12_tellsNow_131 (by decide) (fun _ => ?_) (fun c => absurd c (by decide))
                refine bw_iload dX12_tellsNow_139 rfl ?_
                refine bw_iload dX12_tellsNow_141 rfl ?_
                refine bw_cVv (As := [.int l2, .int (gw_i w 69 (((3 * ((8 * l1) + l2)) + 1).toNatClampNeg)), .int v6]) (st := []) (Q' := (fun w1 => (sw_i (sw_i (sw_i w7 50 38 l2) 50 39 (gw_i w 69 (((3 * ((8 * l1) + l2)) + 1).toNatClampNeg))) 50 40 v6) = w1)) cv_BentWordsModel_360 rfl rfl (fs_X12_fails (d := d + 4) (a0 := l2) (a1 := (gw_i w 69 (((3 * ((8 * l1) + l2)) + 1).toNatClampNeg))) (a2 := v6)  rfl) rfl rfl (Nat.le_of_ble_eq_true rfl) dX12_tellsNow_143 (fun w1 hv => ?_)
                subst hv
                refine bw_iinc (i := 2) (x := l2) (v := (l2 + 1)) (L' := [some (.ref 50), some (.int l1), some (.int (l2 + 1)), some (.int ((8 * l1) + l2)), some (.int (gw_i w 69 (((3 * ((8 * l1) + l2)) + 1).toNatClampNeg))), some (.int (gw_i w 69 (((3 * ((8 * l1) + l2)) + 2).toNatClampNeg))), some (.int v6), some (.int 0)]) dX12_tellsNow_146 rfl rfl (Nat.le_of_ble_eq_true rfl) rfl ?_
                refine bw_goto (tgt := 12) dX12_tellsNow_149 (by decide) ?_
                exact bw_wk [3, 4, 5, 6, 7] rfl h
              · replace h := h.2 (c)
                refine bw_iconst (v := 1) dX12_tellsNow_120 (by decide) ?_
                refine bw_goto (tgt := 125) dX12_tellsNow_121 (by decide) ?_
                refine bw_istore (i := 7) (L' := [some (.ref 50), some (.int l1), some (.int l2), some (.int ((8 * l1) + l2)), some (.int (gw_i w 69 (((3 * ((8 * l1) + l2)) + 1).toNatClampNeg))), some (.int (gw_i w 69 (((3 * ((8 * l1) + l2)) + 2).toNatClampNeg))), some (.int v6), some (.int 1)]) dX12_tellsNow_125 (Nat.le_of_ble_eq_true rfl) rfl ?_
                refine bw_aload_n (i := 0) dX12_tellsNow_127 rfl rfl ?_
                refine bw_iload_n (i := 2) dX12_tellsNow_128 rfl rfl ?_
                refine bw_iload dX12_tellsNow_129 rfl ?_
                refine bw_if_eq (tgt := 139) dX12_tellsNow_131 (by decide) (fun c => absurd c (by decide)) (fun _ => ?_)
                refine bw_iload dX12_tellsNow_134 rfl ?_
                refine bw_goto (tgt := 141) dX12_tellsNow_136 (by decide) ?_
                refine bw_iload dX12_tellsNow_141 rfl ?_
                refine bw_cVv (As := [.int l2, .int (gw_i w 69 (((3 * ((8 * l1) + l2)) + 2).toNatClampNeg)), .int v6]) (st := []) (Q' := (fun w1 => (sw_i (sw_i (sw_i w7 50 38 l2) 50 39 (gw_i w 69 (((3 * ((8 * l1) + l2)) + 2).toNatClampNeg))) 50 40 v6) = w1)) cv_BentWordsModel_360 rfl rfl (fs_X12_fails (d := d + 4) (a0 := l2) (a1 := (gw_i w 69 (((3 * ((8 * l1) + l2)) + 2).toNatClampNeg))) (a2 := v6)  rfl) rfl rfl (Nat.le_of_ble_eq_true rfl) dX12_tellsNow_143 (fun w1 hv => ?_)
                subst hv
                refine bw_iinc (i := 2) (x := l2) (v := (l2 + 1)) (L' := [some (.ref 50), some (.int l1), some (.int (l2 + 1)), some (.int ((8 * l1) + l2)), some (.int (gw_i w 69 (((3 * ((8 * l1) + l2)) + 1).toNatClampNeg))), some (.int (gw_i w 69 (((3 * ((8 * l1) + l2)) + 2).toNatClampNeg))), some (.int v6), some (.int 1)]) dX12_tellsNow_146 rfl rfl (Nat.le_of_ble_eq_true rfl) rfl ?_
                refine bw_goto (tgt := 12) dX12_tellsNow_149 (by decide) ?_
                exact bw_wk [3, 4, 5, 6, 7] rfl h
      · replace h := h.2 (c)
        refine bw_aload_n (i := 0) dX12_tellsNow_85 rfl rfl ?_
        refine bw_iload_n (i := 3) dX12_tellsNow_86 rfl rfl ?_
        obtain ⟨Q9, hr, h⟩ := h
        refine bw_cVv (As := [.int ((8 * l1) + l2)]) (st := []) cv_BentWordsModel_357 rfl rfl hr rfl rfl (Nat.le_of_ble_eq_true rfl) dX12_tellsNow_87 (fun w11 hv => ?_)
        replace h := h w11 hv
        clear hr
        refine bw_goto (tgt := 146) dX12_tellsNow_90 (by decide) ?_
        refine bw_iinc (i := 2) (x := l2) (v := (l2 + 1)) (L' := [some (.ref 50), some (.int l1), some (.int (l2 + 1)), some (.int ((8 * l1) + l2)), some (.int (gw_i w 69 (((3 * ((8 * l1) + l2)) + 1).toNatClampNeg))), some (.int (gw_i w 69 (((3 * ((8 * l1) + l2)) + 2).toNatClampNeg))), some (.int v6), none]) dX12_tellsNow_146 rfl rfl (Nat.le_of_ble_eq_true rfl) rfl ?_
        refine bw_goto (tgt := 12) dX12_tellsNow_149 (by decide) ?_
        exact bw_wk [3, 4, 5, 6] rfl h
theorem wfX12_tellsNow {E : bw_E} {d : Nat} {w : bw_W} {Q : Bool → bw_W → Prop} {a0 : Int32}  (h : bw_G E (d + 5) mX12_tellsNow 12 [some (.ref 50), some (.int a0), some (.int 0), none, none, none, none, none] [] (sw_i (sw_i w 50 37 0) 50 40 (-1)) (bw_qb Q)) : bw_rb E (d + 5) mX12_tellsNow [.ref 50, .int a0] w Q := by
  refine bw_enter rfl (Nat.le_of_ble_eq_true rfl) ?_
  refine bw_aload_n (i := 0) dX12_tellsNow_0 rfl rfl ?_
  refine bw_iconst (v := 0) dX12_tellsNow_1 (by decide) ?_
  refine bw_puti fp_BentWordsModel_308 rfl rfl rfl dX12_tellsNow_2 ?_
  refine bw_aload_n (i := 0) dX12_tellsNow_5 rfl rfl ?_
  refine bw_iconst (v := (-1)) dX12_tellsNow_6 (by decide) ?_
  refine bw_puti fp_BentWordsModel_327 rfl rfl rfl dX12_tellsNow_7 ?_
  refine bw_iconst (v := 0) dX12_tellsNow_10 (by decide) ?_
  refine bw_istore_n (i := 2) (L' := [some (.ref 50), some (.int a0), some (.int 0), none, none, none, none, none]) dX12_tellsNow_11 rfl (Nat.le_of_ble_eq_true rfl) rfl ?_
  exact h
theorem wfX12_missing_30 {E : bw_E} {d : Nat} {w : bw_W} {Q : Int32 → bw_W → Prop} {l1 : Int32} {l2 : Int32} {l3 : Int32} {l4 : Int32} {l5 : Int32}  (h : (vp_in l1 4) ∧
((((8 * l1) + (gw_i w 68 (l1.toNatClampNeg))) ≤ l5 → Q (-1) w) ∧ (¬ (((8 * l1) + (gw_i w 68 (l1.toNatClampNeg))) ≤ l5) → ((¬ ((¬ (l3 < 0)) ∧ (¬ (3 < l3))) → Q (-1) w) ∧ ((¬ (l3 < 0)) ∧ (¬ (3 < l3)) → (∃ Q2 : Int32 → bw_W → Prop, bw_ri E (d + 4) mX12_missingAt [.ref 50, .int l5] w Q2 ∧ ∀ v3 w4, Q2 v3 w4 →
((v3 ≤ 0 → ((v3 ≤ 0 → bw_G E (d + 5) mX12_missing 30 [some (.ref 50), some (.int l1), some (.int l2), some (.int l3), some (.int (l4 + 0)), some (.int (l5 + 1)), none, none] [] w4 (bw_qi Q)) ∧ (¬ (v3 ≤ 0) → bw_G E (d + 5) mX12_missing 30 [some (.ref 50), some (.int l1), some (.int l2), some (.int l3), some (.int (l4 + 1)), some (.int (l5 + 1)), none, none] [] w4 (bw_qi Q)))) ∧ (¬ (v3 ≤ 0) → ((¬ l4 = l2 → ((v3 ≤ 0 → bw_G E (d + 5) mX12_missing 30 [some (.ref 50), some (.int l1), some (.int l2), some (.int l3), some (.int (l4 + 0)), some (.int (l5 + 1)), none, none] [] w4 (bw_qi Q)) ∧ (¬ (v3 ≤ 0) → bw_G E (d + 5) mX12_missing 30 [some (.ref 50), some (.int l1), some (.int l2), some (.int l3), some (.int (l4 + 1)), some (.int (l5 + 1)), none, none] [] w4 (bw_qi Q)))) ∧ (l4 = l2 → (vp_in ((3 * l5) + 1) 96) ∧
((¬ l3 = 0 → ((¬ l3 = 1 → ((¬ l3 = 2 → Q v3 w4) ∧ (l3 = 2 → (((((vp_in ((1 + (2 * (gw_i w4 69 (((3 * l5) + 1).toNatClampNeg)))) + 1) 236))))) ∧
Q (vX12_numberIn w4 (gw_i w4 69 (((3 * l5) + 1).toNatClampNeg))) w4))) ∧ (l3 = 1 → (vp_in ((3 * l5) + 2) 96) ∧
Q (gw_i w4 69 (((3 * l5) + 2).toNatClampNeg)) w4))) ∧ (l3 = 0 → (((vp_in (1 + (2 * (gw_i w4 69 (((3 * l5) + 1).toNatClampNeg)))) 236))) ∧
Q (vX12_nounIn w4 (gw_i w4 69 (((3 * l5) + 1).toNatClampNeg))) w4)))))))))))) : bw_G E (d + 5) mX12_missing 30 [some (.ref 50), some (.int l1), some (.int l2), some (.int l3), some (.int l4), some (.int l5), none, none] [] w (bw_qi Q) := by
  refine bw_iload dX12_missing_30 rfl ?_
  refine bw_bipush (v := 8) dX12_missing_32 (by decide) ?_
  refine bw_iload_n (i := 1) dX12_missing_34 rfl rfl ?_
  refine bw_imul dX12_missing_35 ?_
  refine bw_aload_n (i := 0) dX12_missing_36 rfl rfl ?_
  refine bw_getr (r := 68) fg_BentWordsModel_62 rfl rfl dX12_missing_37 ?_
  refine bw_iload_n (i := 1) dX12_missing_40 rfl rfl ?_
  obtain ⟨hi1, h⟩ := h
  refine bw_iaload rfl hi1 dX12_missing_41 ?_
  refine bw_iadd dX12_missing_42 ?_
  refine bw_icmp_ge (tgt := 157) dX12_missing_43 (by decide) (fun c => ?_) (fun c => ?_)
  · replace h := h.1 (c)
    refine bw_iconst (v := (-1)) dX12_missing_157 (by decide) ?_
    exact bw_ireturn dX12_missing_158 rfl rfl ⟨_, rfl, h⟩
  · replace h := h.2 (c)
    refine bw_iload_n (i := 3) dX12_missing_46 rfl rfl ?_
    refine bw_iconst (v := 0) dX12_missing_47 (by decide) ?_
    refine bw_iconst (v := 3) dX12_missing_48 (by decide) ?_
    refine bw_cSb (As := [.int l3, .int 0, .int 3]) (st := []) (Q' := (fun v w1 => (decide ((¬ (l3 < 0)) ∧ (¬ (3 < l3)))) = v ∧ w = w1)) cs_BentWordsModel_100 (fs_X12_in (d := d + 4) (a0 := l3) (a1 := 0) (a2 := 3)  ⟨rfl, rfl⟩) rfl rfl (Nat.le_of_ble_eq_true rfl) dX12_missing_49 (fun v w1 hv => ?_)
    obtain ⟨rfl, rfl⟩ := hv
    refine bw_ifb_eq (tgt := 157) dX12_missing_52 (by decide) (fun c => ?_) (fun c => ?_)
    · replace h := h.1 (of_decide_eq_false c)
      refine bw_iconst (v := (-1)) dX12_missing_157 (by decide) ?_
      exact bw_ireturn dX12_missing_158 rfl rfl ⟨_, rfl, h⟩
    · replace h := h.2 (of_decide_eq_true c)
      refine bw_aload_n (i := 0) dX12_missing_55 rfl rfl ?_
      refine bw_iload dX12_missing_56 rfl ?_
      obtain ⟨Q2, hr, h⟩ := h
      refine bw_cVi (As := [.int l5]) (st := []) cv_BentWordsModel_462 rfl rfl hr rfl rfl (Nat.le_of_ble_eq_true rfl) dX12_missing_58 (fun v3 w4 hv => ?_)
      replace h := h v3 w4 hv
      clear hr
      refine bw_istore (i := 6) (L' := [some (.ref 50), some (.int l1), some (.int l2), some (.int l3), some (.int l4), some (.int l5), some (.int v3), none]) dX12_missing_61 (Nat.le_of_ble_eq_true rfl) rfl ?_
      refine bw_iload dX12_missing_63 rfl ?_
      refine bw_if_le (tgt := 136) dX12_missing_65 (by decide) (fun c => ?_) (fun c => ?_)
      · replace h := h.1 (c)
        refine bw_iload dX12_missing_136 rfl ?_
        refine bw_iload dX12_missing_138 rfl ?_
        refine bw_if_le (tgt := 147) dX12_missing_140 (by decide) (fun c => ?_) (fun c => ?_)
        · replace h := h.1 (c)
          refine bw_iconst (v := 0) dX12_missing_147 (by decide) ?_
          refine bw_iadd dX12_missing_148 ?_
          refine bw_istore (i := 4) (L' := [some (.ref 50), some (.int l1), some (.int l2), some (.int l3), some (.int (l4 + 0)), some (.int l5), some (.int v3), none]) dX12_missing_149 (Nat.le_of_ble_eq_true rfl) rfl ?_
          refine bw_iinc (i := 5) (x := l5) (v := (l5 + 1)) (L' := [some (.ref 50), some (.int l1), some (.int l2), some (.int l3), some (.int (l4 + 0)), some (.int (l5 + 1)), some (.int v3), none]) dX12_missing_151 rfl rfl (Nat.le_of_ble_eq_true rfl) rfl ?_
          refine bw_goto (tgt := 30) dX12_missing_154 (by decide) ?_
          exact bw_wk [6] rfl h
        · replace h := h.2 (c)
          refine bw_iconst (v := 1) dX12_missing_143 (by decide) ?_
          refine bw_goto (tgt := 148) dX12_missing_144 (by decide) ?_
          refine bw_iadd dX12_missing_148 ?_
          refine bw_istore (i := 4) (L' := [some (.ref 50), some (.int l1), some (.int l2), some (.int l3), some (.int (l4 + 1)), some (.int l5), some (.int v3), none]) dX12_missing_149 (Nat.le_of_ble_eq_true rfl) rfl ?_
          refine bw_iinc (i := 5) (x := l5) (v := (l5 + 1)) (L' := [some (.ref 50), some (.int l1), some (.int l2), some (.int l3), some (.int (l4 + 1)), some (.int (l5 + 1)), some (.int v3), none]) dX12_missing_151 rfl rfl (Nat.le_of_ble_eq_true rfl) rfl ?_
          refine bw_goto (tgt := 30) dX12_missing_154 (by decide) ?_
          exact bw_wk [6] rfl h
      · replace h := h.2 (c)
        refine bw_iload dX12_missing_68 rfl ?_
        refine bw_iload_n (i := 2) dX12_missing_70 rfl rfl ?_
        refine bw_icmp_ne (tgt := 136) dX12_missing_71 (by decide) (fun c => ?_) (fun c => ?_)
        · replace h := h.1 (c)
          refine bw_iload dX12_missing_136 rfl ?_
          refine bw_iload dX12_missing_138 rfl ?_
          refine bw_if_le (tgt := 147) dX12_missing_140 (by decide) (fun c => ?_) (fun c => ?_)
          · replace h := h.1 (c)
            refine bw_iconst (v := 0) dX12_missing_147 (by decide) ?_
            refine bw_iadd dX12_missing_148 ?_
            refine bw_istore (i := 4) (L' := [some (.ref 50), some (.int l1), some (.int l2), some (.int l3), some (.int (l4 + 0)), some (.int l5), some (.int v3), none]) dX12_missing_149 (Nat.le_of_ble_eq_true rfl) rfl ?_
            refine bw_iinc (i := 5) (x := l5) (v := (l5 + 1)) (L' := [some (.ref 50), some (.int l1), some (.int l2), some (.int l3), some (.int (l4 + 0)), some (.int (l5 + 1)), some (.int v3), none]) dX12_missing_151 rfl rfl (Nat.le_of_ble_eq_true rfl) rfl ?_
            refine bw_goto (tgt := 30) dX12_missing_154 (by decide) ?_
            exact bw_wk [6] rfl h
          · replace h := h.2 (c)
            refine bw_iconst (v := 1) dX12_missing_143 (by decide) ?_
            refine bw_goto (tgt := 148) dX12_missing_144 (by decide) ?_
            refine bw_iadd dX12_missing_148 ?_
            refine bw_istore (i := 4) (L' := [some (.ref 50), some (.int l1), some (.int l2), some (.int l3), some (.int (l4 + 1)), some (.int l5), some (.int v3), none]) dX12_missing_149 (Nat.le_of_ble_eq_true rfl) rfl ?_
            refine bw_iinc (i := 5) (x := l5) (v := (l5 + 1)) (L' := [some (.ref 50), some (.int l1), some (.int l2), some (.int l3), some (.int (l4 + 1)), some (.int (l5 + 1)), some (.int v3), none]) dX12_missing_151 rfl rfl (Nat.le_of_ble_eq_true rfl) rfl ?_
            refine bw_goto (tgt := 30) dX12_missing_154 (by decide) ?_
            exact bw_wk [6] rfl h
        · replace h := h.2 (c)
          refine bw_aload_n (i := 0) dX12_missing_74 rfl rfl ?_
          refine bw_getr (r := 69) fg_BentWordsModel_65 rfl rfl dX12_missing_75 ?_
          refine bw_iconst (v := 3) dX12_missing_78 (by decide) ?_
          refine bw_iload dX12_missing_79 rfl ?_
          refine bw_imul dX12_missing_81 ?_
          refine bw_iconst (v := 1) dX12_missing_82 (by decide) ?_
          refine bw_iadd dX12_missing_83 ?_
          obtain ⟨hi5, h⟩ := h
          refine bw_iaload rfl hi5 dX12_missing_84 ?_
          refine bw_istore (i := 7) (L' := [some (.ref 50), some (.int l1), some (.int l2), some (.int l3), some (.int l4), some (.int l5), some (.int v3), some (.int (gw_i w4 69 (((3 * l5) + 1).toNatClampNeg)))]) dX12_missing_85 (Nat.le_of_ble_eq_true rfl) rfl ?_
          refine bw_iload_n (i := 3) dX12_missing_87 rfl rfl ?_
          refine bw_if_ne (tgt := 100) dX12_missing_88 (by decide) (fun c => ?_) (fun c => ?_)
          · replace h := h.1 (c)
            refine bw_iload_n (i := 3) dX12_missing_100 rfl rfl ?_
            refine bw_iconst (v := 1) dX12_missing_101 (by decide) ?_
            refine bw_icmp_ne (tgt := 119) dX12_missing_102 (by decide) (fun c => ?_) (fun c => ?_)
            · replace h := h.1 (c)
              refine bw_iload_n (i := 3) dX12_missing_119 rfl rfl ?_
              refine bw_iconst (v := 2) dX12_missing_120 (by decide) ?_
              refine bw_icmp_ne (tgt := 133) dX12_missing_121 (by decide) (fun c => ?_) (fun c => ?_)
              · replace h := h.1 (c)
                refine bw_iload dX12_missing_133 rfl ?_
                exact bw_ireturn dX12_missing_135 rfl rfl ⟨_, rfl, h⟩
              · replace h := h.2 (c)
                refine bw_aload_n (i := 0) dX12_missing_124 rfl rfl ?_
                refine bw_iload dX12_missing_125 rfl ?_
                obtain ⟨hc6, h⟩ := h
                refine bw_cVi (As := [.int (gw_i w4 69 (((3 * l5) + 1).toNatClampNeg))]) (st := []) (Q' := (fun v w1 => (vX12_numberIn w4 (gw_i w4 69 (((3 * l5) + 1).toNatClampNeg))) = v ∧ w4 = w1)) cv_BentWordsModel_333 rfl rfl (fs_X12_numberIn (d := d + 3) (a0 := (gw_i w4 69 (((3 * l5) + 1).toNatClampNeg))) hc6 ⟨rfl, rfl⟩) rfl rfl (Nat.le_of_ble_eq_true rfl) dX12_missing_127 (fun v w1 hv => ?_)
                obtain ⟨rfl, rfl⟩ := hv
                refine bw_goto (tgt := 135) dX12_missing_130 (by decide) ?_
                exact bw_ireturn dX12_missing_135 rfl rfl ⟨_, rfl, h⟩
            · replace h := h.2 (c)
              refine bw_aload_n (i := 0) dX12_missing_105 rfl rfl ?_
              refine bw_getr (r := 69) fg_BentWordsModel_65 rfl rfl dX12_missing_106 ?_
              refine bw_iconst (v := 3) dX12_missing_109 (by decide) ?_
              refine bw_iload dX12_missing_110 rfl ?_
              refine bw_imul dX12_missing_112 ?_
              refine bw_iconst (v := 2) dX12_missing_113 (by decide) ?_
              refine bw_iadd dX12_missing_114 ?_
              obtain ⟨hi7, h⟩ := h
              refine bw_iaload rfl hi7 dX12_missing_115 ?_
              refine bw_goto (tgt := 135) dX12_missing_116 (by decide) ?_
              exact bw_ireturn dX12_missing_135 rfl rfl ⟨_, rfl, h⟩
          · replace h := h.2 (c)
            refine bw_aload_n (i := 0) dX12_missing_91 rfl rfl ?_
            refine bw_iload dX12_missing_92 rfl ?_
            obtain ⟨hc8, h⟩ := h
            refine bw_cVi (As := [.int (gw_i w4 69 (((3 * l5) + 1).toNatClampNeg))]) (st := []) (Q' := (fun v w1 => (vX12_nounIn w4 (gw_i w4 69 (((3 * l5) + 1).toNatClampNeg))) = v ∧ w4 = w1)) cv_BentWordsModel_330 rfl rfl (fs_X12_nounIn (d := d + 4) (a0 := (gw_i w4 69 (((3 * l5) + 1).toNatClampNeg))) hc8 ⟨rfl, rfl⟩) rfl rfl (Nat.le_of_ble_eq_true rfl) dX12_missing_94 (fun v w1 hv => ?_)
            obtain ⟨rfl, rfl⟩ := hv
            refine bw_goto (tgt := 135) dX12_missing_97 (by decide) ?_
            exact bw_ireturn dX12_missing_135 rfl rfl ⟨_, rfl, h⟩
theorem wfX12_missing {E : bw_E} {d : Nat} {w : bw_W} {Q : Int32 → bw_W → Prop} {a0 : Int32} {a1 : Int32} {a2 : Int32}  (h : (((¬ ((gw_i w 50 34) ≤ 0)) ∧ ((¬ (a0 < 0)) ∧ (¬ (((gw_i w 50 35) - 1) < a0))) → ((¬ a1 = (-1) → bw_G E (d + 5) mX12_missing 30 [some (.ref 50), some (.int a0), some (.int a1), some (.int a2), some (.int 0), some (.int (8 * a0)), none, none] [] w (bw_qi Q)) ∧ (a1 = (-1) → (∃ Q1 : Int32 → bw_W → Prop, bw_ri E (d + 4) mX12_missingOf [.ref 50, .int a0] w Q1 ∧ ∀ v2 w3, Q1 v2 w3 →
Q v2 w3)))) ∧ (¬ ((¬ ((gw_i w 50 34) ≤ 0)) ∧ ((¬ (a0 < 0)) ∧ (¬ (((gw_i w 50 35) - 1) < a0)))) → Q (-1) w))) : bw_ri E (d + 5) mX12_missing [.ref 50, .int a0, .int a1, .int a2] w Q := by
  refine bw_enter rfl (Nat.le_of_ble_eq_true rfl) ?_
  refine bw_aload_n (i := 0) dX12_missing_0 rfl rfl ?_
  refine bw_iload_n (i := 1) dX12_missing_1 rfl rfl ?_
  refine bw_cVb (As := [.int a0]) (st := []) (Q' := (fun v w1 => (decide ((¬ ((gw_i w 50 34) ≤ 0)) ∧ ((¬ (a0 < 0)) ∧ (¬ (((gw_i w 50 35) - 1) < a0))))) = v ∧ w = w1)) cv_BentWordsModel_453 rfl rfl (fs_X12_isMessage (d := d + 3) (a0 := a0)  ⟨rfl, rfl⟩) rfl rfl (Nat.le_of_ble_eq_true rfl) dX12_missing_2 (fun v w1 hv => ?_)
  obtain ⟨rfl, rfl⟩ := hv
  refine bw_ifb_ne (tgt := 10) dX12_missing_5 (by decide) (fun c => ?_) (fun c => ?_)
  · replace h := h.1 (of_decide_eq_true c)
    refine bw_iload_n (i := 2) dX12_missing_10 rfl rfl ?_
    refine bw_iconst (v := (-1)) dX12_missing_11 (by decide) ?_
    refine bw_icmp_ne (tgt := 21) dX12_missing_12 (by decide) (fun c => ?_) (fun c => ?_)
    · replace h := h.1 (c)
      refine bw_iconst (v := 0) dX12_missing_21 (by decide) ?_
      refine bw_istore (i := 4) (L' := [some (.ref 50), some (.int a0), some (.int a1), some (.int a2), some (.int 0), none, none, none]) dX12_missing_22 (Nat.le_of_ble_eq_true rfl) rfl ?_
      refine bw_bipush (v := 8) dX12_missing_24 (by decide) ?_
      refine bw_iload_n (i := 1) dX12_missing_26 rfl rfl ?_
      refine bw_imul dX12_missing_27 ?_
      refine bw_istore (i := 5) (L' := [some (.ref 50), some (.int a0), some (.int a1), some (.int a2), some (.int 0), some (.int (8 * a0)), none, none]) dX12_missing_28 (Nat.le_of_ble_eq_true rfl) rfl ?_
      exact h
    · replace h := h.2 (c)
      refine bw_aload_n (i := 0) dX12_missing_15 rfl rfl ?_
      refine bw_iload_n (i := 1) dX12_missing_16 rfl rfl ?_
      obtain ⟨Q1, hr, h⟩ := h
      refine bw_cVi (As := [.int a0]) (st := []) cv_BentWordsModel_465 rfl rfl hr rfl rfl (Nat.le_of_ble_eq_true rfl) dX12_missing_17 (fun v2 w3 hv => ?_)
      replace h := h v2 w3 hv
      clear hr
      exact bw_ireturn dX12_missing_20 rfl rfl ⟨_, rfl, h⟩
  · replace h := h.2 (of_decide_eq_false c)
    refine bw_iconst (v := (-1)) dX12_missing_8 (by decide) ?_
    exact bw_ireturn dX12_missing_9 rfl rfl ⟨_, rfl, h⟩
theorem wfX12_alike_14 {E : bw_E} {d : Nat} {w : bw_W} {Q : Int32 → bw_W → Prop} {l1 : Int32} {l2 : Int32} {l3 : Int32}  (h : ((8 ≤ l3 → Q l2 w) ∧ (¬ (8 ≤ l3) → bw_G E (d + 5) mX12_alike 26 [some (.ref 50), some (.int l1), some (.int l2), some (.int l3), some (.int 1), some (.int 0)] [] w (bw_qi Q)))) : bw_G E (d + 5) mX12_alike 14 [some (.ref 50), some (.int l1), some (.int l2), some (.int l3), none, none] [] w (bw_qi Q) := by
  refine bw_iload_n (i := 3) dX12_alike_14 rfl rfl ?_
  refine bw_bipush (v := 8) dX12_alike_15 (by decide) ?_
  refine bw_icmp_ge (tgt := 86) dX12_alike_17 (by decide) (fun c => ?_) (fun c => ?_)
  · replace h := h.1 (c)
    refine bw_iload_n (i := 2) dX12_alike_86 rfl rfl ?_
    exact bw_ireturn dX12_alike_87 rfl rfl ⟨_, rfl, h⟩
  · replace h := h.2 (c)
    refine bw_iconst (v := 1) dX12_alike_20 (by decide) ?_
    refine bw_istore (i := 4) (L' := [some (.ref 50), some (.int l1), some (.int l2), some (.int l3), some (.int 1), none]) dX12_alike_21 (Nat.le_of_ble_eq_true rfl) rfl ?_
    refine bw_iconst (v := 0) dX12_alike_23 (by decide) ?_
    refine bw_istore (i := 5) (L' := [some (.ref 50), some (.int l1), some (.int l2), some (.int l3), some (.int 1), some (.int 0)]) dX12_alike_24 (Nat.le_of_ble_eq_true rfl) rfl ?_
    exact h
theorem wfX12_alike_26 {E : bw_E} {d : Nat} {w : bw_W} {Q : Int32 → bw_W → Prop} {l1 : Int32} {l2 : Int32} {l3 : Int32} {l4 : Int32} {l5 : Int32}  (h : ((l3 ≤ l5 → ((l4 = 0 → bw_G E (d + 5) mX12_alike 14 [some (.ref 50), some (.int l1), some (.int (l2 + 0)), some (.int (l3 + 1)), none, none] [] w (bw_qi Q)) ∧ (¬ (l4 = 0) → bw_G E (d + 5) mX12_alike 14 [some (.ref 50), some (.int l1), some (.int (l2 + 1)), some (.int (l3 + 1)), none, none] [] w (bw_qi Q)))) ∧ (¬ (l3 ≤ l5) → ((l4 = 0 → bw_G E (d + 5) mX12_alike 26 [some (.ref 50), some (.int l1), some (.int l2), some (.int l3), some (.int 0), some (.int (l5 + 1))] [] w (bw_qi Q)) ∧ (¬ (l4 = 0) → (∃ Q1 : Int64 → bw_W → Prop, bw_rl E (d + 4) mX12_formBy [.ref 50, .int l1, .int l3] w Q1 ∧ ∀ v2 w3, Q1 v2 w3 →
(∃ Q4 : Int64 → bw_W → Prop, bw_rl E (d + 4) mX12_formBy [.ref 50, .int l1, .int l5] w3 Q4 ∧ ∀ v5 w6, Q4 v5 w6 →
((v2 = v5 → bw_G E (d + 5) mX12_alike 26 [some (.ref 50), some (.int l1), some (.int l2), some (.int l3), some (.int 0), some (.int (l5 + 1))] [] w6 (bw_qi Q)) ∧ (¬ v2 = v5 → bw_G E (d + 5) mX12_alike 26 [some (.ref 50), some (.int l1), some (.int l2), some (.int l3), some (.int 1), some (.int (l5 + 1))] [] w6 (bw_qi Q)))))))))) : bw_G E (d + 5) mX12_alike 26 [some (.ref 50), some (.int l1), some (.int l2), some (.int l3), some (.int l4), some (.int l5)] [] w (bw_qi Q) := by
  refine bw_iload dX12_alike_26 rfl ?_
  refine bw_iload_n (i := 3) dX12_alike_28 rfl rfl ?_
  refine bw_icmp_ge (tgt := 67) dX12_alike_29 (by decide) (fun c => ?_) (fun c => ?_)
  · replace h := h.1 (c)
    refine bw_iload_n (i := 2) dX12_alike_67 rfl rfl ?_
    refine bw_iload dX12_alike_68 rfl ?_
    refine bw_if_eq (tgt := 77) dX12_alike_70 (by decide) (fun c => ?_) (fun c => ?_)
    · replace h := h.1 (c)
      refine bw_iconst (v := 0) dX12_alike_77 (by decide) ?_
      refine bw_iadd dX12_alike_78 ?_
      refine bw_istore_n (i := 2) (L' := [some (.ref 50), some (.int l1), some (.int (l2 + 0)), some (.int l3), some (.int l4), some (.int l5)]) dX12_alike_79 rfl (Nat.le_of_ble_eq_true rfl) rfl ?_
      refine bw_iinc (i := 3) (x := l3) (v := (l3 + 1)) (L' := [some (.ref 50), some (.int l1), some (.int (l2 + 0)), some (.int (l3 + 1)), some (.int l4), some (.int l5)]) dX12_alike_80 rfl rfl (Nat.le_of_ble_eq_true rfl) rfl ?_
      refine bw_goto (tgt := 14) dX12_alike_83 (by decide) ?_
      exact bw_wk [4, 5] rfl h
    · replace h := h.2 (c)
      refine bw_iconst (v := 1) dX12_alike_73 (by decide) ?_
      refine bw_goto (tgt := 78) dX12_alike_74 (by decide) ?_
      refine bw_iadd dX12_alike_78 ?_
      refine bw_istore_n (i := 2) (L' := [some (.ref 50), some (.int l1), some (.int (l2 + 1)), some (.int l3), some (.int l4), some (.int l5)]) dX12_alike_79 rfl (Nat.le_of_ble_eq_true rfl) rfl ?_
      refine bw_iinc (i := 3) (x := l3) (v := (l3 + 1)) (L' := [some (.ref 50), some (.int l1), some (.int (l2 + 1)), some (.int (l3 + 1)), some (.int l4), some (.int l5)]) dX12_alike_80 rfl rfl (Nat.le_of_ble_eq_true rfl) rfl ?_
      refine bw_goto (tgt := 14) dX12_alike_83 (by decide) ?_
      exact bw_wk [4, 5] rfl h
  · replace h := h.2 (c)
    refine bw_iload dX12_alike_32 rfl ?_
    refine bw_if_eq (tgt := 58) dX12_alike_34 (by decide) (fun c => ?_) (fun c => ?_)
    · replace h := h.1 (c)
      refine bw_iconst (v := 0) dX12_alike_58 (by decide) ?_
      refine bw_istore (i := 4) (L' := [some (.ref 50), some (.int l1), some (.int l2), some (.int l3), some (.int 0), some (.int l5)]) dX12_alike_59 (Nat.le_of_ble_eq_true rfl) rfl ?_
      refine bw_iinc (i := 5) (x := l5) (v := (l5 + 1)) (L' := [some (.ref 50), some (.int l1), some (.int l2), some (.int l3), some (.int 0), some (.int (l5 + 1))]) dX12_alike_61 rfl rfl (Nat.le_of_ble_eq_true rfl) rfl ?_
      refine bw_goto (tgt := 26) dX12_alike_64 (by decide) ?_
      exact h
    · replace h := h.2 (c)
      refine bw_aload_n (i := 0) dX12_alike_37 rfl rfl ?_
      refine bw_iload_n (i := 1) dX12_alike_38 rfl rfl ?_
      refine bw_iload_n (i := 3) dX12_alike_39 rfl rfl ?_
      obtain ⟨Q1, hr, h⟩ := h
      refine bw_cVl (As := [.int l1, .int l3]) (st := []) cv_BentWordsModel_474 rfl rfl hr rfl rfl (Nat.le_of_ble_eq_true rfl) dX12_alike_40 (fun v2 w3 hv => ?_)
      replace h := h v2 w3 hv
      clear hr
      refine bw_aload_n (i := 0) dX12_alike_43 rfl rfl ?_
      refine bw_iload_n (i := 1) dX12_alike_44 rfl rfl ?_
      refine bw_iload dX12_alike_45 rfl ?_
      obtain ⟨Q4, hr, h⟩ := h
      refine bw_cVl (As := [.int l1, .int l5]) (st := [.long v2]) cv_BentWordsModel_474 rfl rfl hr rfl rfl (Nat.le_of_ble_eq_true rfl) dX12_alike_47 (fun v5 w6 hv => ?_)
      replace h := h v5 w6 hv
      clear hr
      refine bw_lcmp_eq (tgt := 58) dX12_alike_50 dX12_alike_51 (by decide) (fun c => ?_) (fun c => ?_)
      · replace h := h.1 (c)
        refine bw_iconst (v := 0) dX12_alike_58 (by decide) ?_
        refine bw_istore (i := 4) (L' := [some (.ref 50), some (.int l1), some (.int l2), some (.int l3), some (.int 0), some (.int l5)]) dX12_alike_59 (Nat.le_of_ble_eq_true rfl) rfl ?_
        refine bw_iinc (i := 5) (x := l5) (v := (l5 + 1)) (L' := [some (.ref 50), some (.int l1), some (.int l2), some (.int l3), some (.int 0), some (.int (l5 + 1))]) dX12_alike_61 rfl rfl (Nat.le_of_ble_eq_true rfl) rfl ?_
        refine bw_goto (tgt := 26) dX12_alike_64 (by decide) ?_
        exact h
      · replace h := h.2 (c)
        refine bw_iconst (v := 1) dX12_alike_54 (by decide) ?_
        refine bw_goto (tgt := 59) dX12_alike_55 (by decide) ?_
        refine bw_istore (i := 4) (L' := [some (.ref 50), some (.int l1), some (.int l2), some (.int l3), some (.int 1), some (.int l5)]) dX12_alike_59 (Nat.le_of_ble_eq_true rfl) rfl ?_
        refine bw_iinc (i := 5) (x := l5) (v := (l5 + 1)) (L' := [some (.ref 50), some (.int l1), some (.int l2), some (.int l3), some (.int 1), some (.int (l5 + 1))]) dX12_alike_61 rfl rfl (Nat.le_of_ble_eq_true rfl) rfl ?_
        refine bw_goto (tgt := 26) dX12_alike_64 (by decide) ?_
        exact h
theorem wfX12_alike {E : bw_E} {d : Nat} {w : bw_W} {Q : Int32 → bw_W → Prop} {a0 : Int32}  (h : (((¬ (a0 < 0)) ∧ (¬ (((gw_i w 50 34) - 1) < a0)) → bw_G E (d + 5) mX12_alike 14 [some (.ref 50), some (.int a0), some (.int 0), some (.int 0), none, none] [] w (bw_qi Q)) ∧ (¬ ((¬ (a0 < 0)) ∧ (¬ (((gw_i w 50 34) - 1) < a0))) → Q (-1) w))) : bw_ri E (d + 5) mX12_alike [.ref 50, .int a0] w Q := by
  refine bw_enter rfl (Nat.le_of_ble_eq_true rfl) ?_
  refine bw_aload_n (i := 0) dX12_alike_0 rfl rfl ?_
  refine bw_iload_n (i := 1) dX12_alike_1 rfl rfl ?_
  refine bw_cVb (As := [.int a0]) (st := []) (Q' := (fun v w1 => (decide ((¬ (a0 < 0)) ∧ (¬ (((gw_i w 50 34) - 1) < a0)))) = v ∧ w = w1)) cv_BentWordsModel_376 rfl rfl (fs_X12_isNoun (d := d + 3) (a0 := a0)  ⟨rfl, rfl⟩) rfl rfl (Nat.le_of_ble_eq_true rfl) dX12_alike_2 (fun v w1 hv => ?_)
  obtain ⟨rfl, rfl⟩ := hv
  refine bw_ifb_ne (tgt := 10) dX12_alike_5 (by decide) (fun c => ?_) (fun c => ?_)
  · replace h := h.1 (of_decide_eq_true c)
    refine bw_iconst (v := 0) dX12_alike_10 (by decide) ?_
    refine bw_istore_n (i := 2) (L' := [some (.ref 50), some (.int a0), some (.int 0), none, none, none]) dX12_alike_11 rfl (Nat.le_of_ble_eq_true rfl) rfl ?_
    refine bw_iconst (v := 0) dX12_alike_12 (by decide) ?_
    refine bw_istore_n (i := 3) (L' := [some (.ref 50), some (.int a0), some (.int 0), some (.int 0), none, none]) dX12_alike_13 rfl (Nat.le_of_ble_eq_true rfl) rfl ?_
    exact h
  · replace h := h.2 (of_decide_eq_false c)
    refine bw_iconst (v := (-1)) dX12_alike_8 (by decide) ?_
    exact bw_ireturn dX12_alike_9 rfl rfl ⟨_, rfl, h⟩
theorem wfX12_canBe_21 {E : bw_E} {d : Nat} {w : bw_W} {Q : Int32 → bw_W → Prop} {l1 : Int32} {l2 : Int64} {l4 : Int32} {l5 : Int32}  (h : ((8 ≤ l5 → Q l4 w) ∧ (¬ (8 ≤ l5) → (∃ Q1 : Int64 → bw_W → Prop, bw_rl E (d + 4) mX12_formBy [.ref 50, .int l1, .int l5] w Q1 ∧ ∀ v2 w3, Q1 v2 w3 →
((¬ v2 = l2 → bw_G E (d + 5) mX12_canBe 21 [some (.ref 50), some (.int l1), some (.long l2), none, some (.int (l4 ||| 0)), some (.int (l5 + 1))] [] w3 (bw_qi Q)) ∧ (v2 = l2 → bw_G E (d + 5) mX12_canBe 21 [some (.ref 50), some (.int l1), some (.long l2), none, some (.int (l4 ||| ((1 : Int32) <<< (l5 &&& 31)))), some (.int (l5 + 1))] [] w3 (bw_qi Q))))))) : bw_G E (d + 5) mX12_canBe 21 [some (.ref 50), some (.int l1), some (.long l2), none, some (.int l4), some (.int l5)] [] w (bw_qi Q) := by
  refine bw_iload dX12_canBe_21 rfl ?_
  refine bw_bipush (v := 8) dX12_canBe_23 (by decide) ?_
  refine bw_icmp_ge (tgt := 59) dX12_canBe_25 (by decide) (fun c => ?_) (fun c => ?_)
  · replace h := h.1 (c)
    refine bw_iload dX12_canBe_59 rfl ?_
    exact bw_ireturn dX12_canBe_61 rfl rfl ⟨_, rfl, h⟩
  · replace h := h.2 (c)
    refine bw_iload dX12_canBe_28 rfl ?_
    refine bw_aload_n (i := 0) dX12_canBe_30 rfl rfl ?_
    refine bw_iload_n (i := 1) dX12_canBe_31 rfl rfl ?_
    refine bw_iload dX12_canBe_32 rfl ?_
    obtain ⟨Q1, hr, h⟩ := h
    refine bw_cVl (As := [.int l1, .int l5]) (st := [.int l4]) cv_BentWordsModel_474 rfl rfl hr rfl rfl (Nat.le_of_ble_eq_true rfl) dX12_canBe_34 (fun v2 w3 hv => ?_)
    replace h := h v2 w3 hv
    clear hr
    refine bw_lload_n (i := 2) dX12_canBe_37 rfl rfl ?_
    refine bw_lcmp_ne (tgt := 49) dX12_canBe_38 dX12_canBe_39 (by decide) (fun c => ?_) (fun c => ?_)
    · replace h := h.1 (c)
      refine bw_iconst (v := 0) dX12_canBe_49 (by decide) ?_
      refine bw_ior dX12_canBe_50 ?_
      refine bw_istore (i := 4) (L' := [some (.ref 50), some (.int l1), some (.long l2), none, some (.int (l4 ||| 0)), some (.int l5)]) dX12_canBe_51 (Nat.le_of_ble_eq_true rfl) rfl ?_
      refine bw_iinc (i := 5) (x := l5) (v := (l5 + 1)) (L' := [some (.ref 50), some (.int l1), some (.long l2), none, some (.int (l4 ||| 0)), some (.int (l5 + 1))]) dX12_canBe_53 rfl rfl (Nat.le_of_ble_eq_true rfl) rfl ?_
      refine bw_goto (tgt := 21) dX12_canBe_56 (by decide) ?_
      exact h
    · replace h := h.2 (c)
      refine bw_iconst (v := 1) dX12_canBe_42 (by decide) ?_
      refine bw_iload dX12_canBe_43 rfl ?_
      refine bw_ishl dX12_canBe_45 ?_
      refine bw_goto (tgt := 50) dX12_canBe_46 (by decide) ?_
      refine bw_ior dX12_canBe_50 ?_
      refine bw_istore (i := 4) (L' := [some (.ref 50), some (.int l1), some (.long l2), none, some (.int (l4 ||| ((1 : Int32) <<< (l5 &&& 31)))), some (.int l5)]) dX12_canBe_51 (Nat.le_of_ble_eq_true rfl) rfl ?_
      refine bw_iinc (i := 5) (x := l5) (v := (l5 + 1)) (L' := [some (.ref 50), some (.int l1), some (.long l2), none, some (.int (l4 ||| ((1 : Int32) <<< (l5 &&& 31)))), some (.int (l5 + 1))]) dX12_canBe_53 rfl rfl (Nat.le_of_ble_eq_true rfl) rfl ?_
      refine bw_goto (tgt := 21) dX12_canBe_56 (by decide) ?_
      exact h
theorem wfX12_canBe {E : bw_E} {d : Nat} {w : bw_W} {Q : Int32 → bw_W → Prop} {a0 : Int32}  (h : (((¬ (a0 < 0)) ∧ (¬ (((gw_i w 50 34) - 1) < a0)) → (∃ Q1 : Int64 → bw_W → Prop, bw_rl E (d + 4) mX12_tapeWord [.ref 50] w Q1 ∧ ∀ v2 w3, Q1 v2 w3 →
bw_G E (d + 5) mX12_canBe 21 [some (.ref 50), some (.int a0), some (.long v2), none, some (.int 0), some (.int 0)] [] w3 (bw_qi Q))) ∧ (¬ ((¬ (a0 < 0)) ∧ (¬ (((gw_i w 50 34) - 1) < a0))) → Q (-1) w))) : bw_ri E (d + 5) mX12_canBe [.ref 50, .int a0] w Q := by
  refine bw_enter rfl (Nat.le_of_ble_eq_true rfl) ?_
  refine bw_aload_n (i := 0) dX12_canBe_0 rfl rfl ?_
  refine bw_iload_n (i := 1) dX12_canBe_1 rfl rfl ?_
  refine bw_cVb (As := [.int a0]) (st := []) (Q' := (fun v w1 => (decide ((¬ (a0 < 0)) ∧ (¬ (((gw_i w 50 34) - 1) < a0)))) = v ∧ w = w1)) cv_BentWordsModel_376 rfl rfl (fs_X12_isNoun (d := d + 3) (a0 := a0)  ⟨rfl, rfl⟩) rfl rfl (Nat.le_of_ble_eq_true rfl) dX12_canBe_2 (fun v w1 hv => ?_)
  obtain ⟨rfl, rfl⟩ := hv
  refine bw_ifb_ne (tgt := 10) dX12_canBe_5 (by decide) (fun c => ?_) (fun c => ?_)
  · replace h := h.1 (of_decide_eq_true c)
    refine bw_aload_n (i := 0) dX12_canBe_10 rfl rfl ?_
    obtain ⟨Q1, hr, h⟩ := h
    refine bw_cVl (As := []) (st := []) cv_BentWordsModel_420 rfl rfl hr rfl rfl (Nat.le_of_ble_eq_true rfl) dX12_canBe_11 (fun v2 w3 hv => ?_)
    replace h := h v2 w3 hv
    clear hr
    refine bw_lstore_n (i := 2) (L' := [some (.ref 50), some (.int a0), some (.long v2), none, none, none]) dX12_canBe_14 rfl (Nat.le_of_ble_eq_true rfl) rfl ?_
    refine bw_iconst (v := 0) dX12_canBe_15 (by decide) ?_
    refine bw_istore (i := 4) (L' := [some (.ref 50), some (.int a0), some (.long v2), none, some (.int 0), none]) dX12_canBe_16 (Nat.le_of_ble_eq_true rfl) rfl ?_
    refine bw_iconst (v := 0) dX12_canBe_18 (by decide) ?_
    refine bw_istore (i := 5) (L' := [some (.ref 50), some (.int a0), some (.long v2), none, some (.int 0), some (.int 0)]) dX12_canBe_19 (Nat.le_of_ble_eq_true rfl) rfl ?_
    exact h
  · replace h := h.2 (of_decide_eq_false c)
    refine bw_iconst (v := (-1)) dX12_canBe_8 (by decide) ?_
    exact bw_ireturn dX12_canBe_9 rfl rfl ⟨_, rfl, h⟩
