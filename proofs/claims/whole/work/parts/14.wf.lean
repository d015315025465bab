theorem wfX10_missingItem_12 {E : bw_E} {d : Nat} {w : bw_W} {Q : Int32 → bw_W → Prop} {l1 : Int32} {l2 : Int32} {l3 : Int32} {l4 : Int32} {l5 : Int32}  (h : (vp_in l1 4) ∧
(((l4 + (gw_i w 25 (l1.toNatClampNeg))) ≤ l5 → Q (-1) w) ∧ (¬ ((l4 + (gw_i w 25 (l1.toNatClampNeg))) ≤ l5) → (∃ Q2 : Bool → bw_W → Prop, bw_rb E (d + 2) mX10_isMissing [.ref 35, .int l5] w Q2 ∧ ∀ v3 w4, Q2 v3 w4 →
((v3 = false → bw_G E (d + 3) mX10_missingItem 12 [some (.ref 35), some (.int l1), some (.int l2), some (.int l3), some (.int l4), some (.int (l5 + 1))] [] w4 (bw_qi Q)) ∧ (v3 = true → ((¬ l3 = l2 → bw_G E (d + 3) mX10_missingItem 12 [some (.ref 35), some (.int l1), some (.int l2), some (.int (l3 + 1)), some (.int l4), some (.int (l5 + 1))] [] w4 (bw_qi Q)) ∧ (l3 = l2 → Q l5 w4)))))))) : bw_G E (d + 3) mX10_missingItem 12 [some (.ref 35), some (.int l1), some (.int l2), some (.int l3), some (.int l4), some (.int l5)] [] w (bw_qi Q) := by
  refine bw_iload dX10_missingItem_12 rfl ?_
  refine bw_iload dX10_missingItem_14 rfl ?_
  refine bw_aload_n (i := 0) dX10_missingItem_16 rfl rfl ?_
  refine bw_getr (r := 18) fg_BentWords_Teller_9 rfl rfl dX10_missingItem_17 ?_
  refine bw_getr (r := 25) fg_BentWords_Teller_53 rfl rfl dX10_missingItem_20 ?_
  refine bw_iload_n (i := 1) dX10_missingItem_23 rfl rfl ?_
  obtain ⟨hi1, h⟩ := h
  refine bw_iaload rfl hi1 dX10_missingItem_24 ?_
  refine bw_iadd dX10_missingItem_25 ?_
  refine bw_icmp_ge (tgt := 55) dX10_missingItem_26 (by decide) (fun c => ?_) (fun c => ?_)
  · replace h := h.1 (c)
    refine bw_iconst (v := (-1)) dX10_missingItem_55 (by decide) ?_
    exact bw_ireturn dX10_missingItem_56 rfl rfl ⟨_, rfl, h⟩
  · replace h := h.2 (c)
    refine bw_aload_n (i := 0) dX10_missingItem_29 rfl rfl ?_
    refine bw_iload dX10_missingItem_30 rfl ?_
    obtain ⟨Q2, hr, h⟩ := h
    refine bw_cVb (As := [.int l5]) (st := []) cv_BentWords_Teller_177 rfl rfl hr rfl rfl (Nat.le_of_ble_eq_true rfl) dX10_missingItem_32 (fun v3 w4 hv => ?_)
    replace h := h v3 w4 hv
    clear hr
    refine bw_ifb_eq (tgt := 49) dX10_missingItem_35 (by decide) (fun c => ?_) (fun c => ?_)
    · replace h := h.1 (c)
      refine bw_iinc (i := 5) (x := l5) (v := (l5 + 1)) (L' := [some (.ref 35), some (.int l1), some (.int l2), some (.int l3), some (.int l4), some (.int (l5 + 1))]) dX10_missingItem_49 rfl rfl (Nat.le_of_ble_eq_true rfl) rfl ?_
      refine bw_goto (tgt := 12) dX10_missingItem_52 (by decide) ?_
      exact h
    · replace h := h.2 (c)
      refine bw_iload_n (i := 3) dX10_missingItem_38 rfl rfl ?_
      refine bw_iload_n (i := 2) dX10_missingItem_39 rfl rfl ?_
      refine bw_icmp_ne (tgt := 46) dX10_missingItem_40 (by decide) (fun c => ?_) (fun c => ?_)
      · replace h := h.1 (c)
        refine bw_iinc (i := 3) (x := l3) (v := (l3 + 1)) (L' := [some (.ref 35), some (.int l1), some (.int l2), some (.int (l3 + 1)), some (.int l4), some (.int l5)]) dX10_missingItem_46 rfl rfl (Nat.le_of_ble_eq_true rfl) rfl ?_
        refine bw_iinc (i := 5) (x := l5) (v := (l5 + 1)) (L' := [some (.ref 35), some (.int l1), some (.int l2), some (.int (l3 + 1)), some (.int l4), some (.int (l5 + 1))]) dX10_missingItem_49 rfl rfl (Nat.le_of_ble_eq_true rfl) rfl ?_
        refine bw_goto (tgt := 12) dX10_missingItem_52 (by decide) ?_
        exact h
      · replace h := h.2 (c)
        refine bw_iload dX10_missingItem_43 rfl ?_
        exact bw_ireturn dX10_missingItem_45 rfl rfl ⟨_, rfl, h⟩
theorem wfX10_missingItem {E : bw_E} {d : Nat} {w : bw_W} {Q : Int32 → bw_W → Prop} {a0 : Int32} {a1 : Int32}  (h : bw_G E (d + 3) mX10_missingItem 12 [some (.ref 35), some (.int a0), some (.int a1), some (.int 0), some (.int (a0 * 8)), some (.int (a0 * 8))] [] w (bw_qi Q)) : bw_ri E (d + 3) mX10_missingItem [.ref 35, .int a0, .int a1] w Q := by
  refine bw_enter rfl (Nat.le_of_ble_eq_true rfl) ?_
  refine bw_iconst (v := 0) dX10_missingItem_0 (by decide) ?_
  refine bw_istore_n (i := 3) (L' := [some (.ref 35), some (.int a0), some (.int a1), some (.int 0), none, none]) dX10_missingItem_1 rfl (Nat.le_of_ble_eq_true rfl) rfl ?_
  refine bw_iload_n (i := 1) dX10_missingItem_2 rfl rfl ?_
  refine bw_bipush (v := 8) dX10_missingItem_3 (by decide) ?_
  refine bw_imul dX10_missingItem_5 ?_
  refine bw_istore (i := 4) (L' := [some (.ref 35), some (.int a0), some (.int a1), some (.int 0), some (.int (a0 * 8)), none]) dX10_missingItem_6 (Nat.le_of_ble_eq_true rfl) rfl ?_
  refine bw_iload dX10_missingItem_8 rfl ?_
  refine bw_istore (i := 5) (L' := [some (.ref 35), some (.int a0), some (.int a1), some (.int 0), some (.int (a0 * 8)), some (.int (a0 * 8))]) dX10_missingItem_10 (Nat.le_of_ble_eq_true rfl) rfl ?_
  exact h
theorem wfX11_form {E : bw_E} {d : Nat} {w : bw_W} {Q : Int32 → bw_W → Prop} {a0 : Int32} {a1 : Int32} {a2 : Int32} {a3 : Int32}  (h : ((¬ ((¬ (a0 < 0)) ∧ (¬ ((gw_i w 18 0) ≤ a0))) → Q (-1) w) ∧ ((¬ (a0 < 0)) ∧ (¬ ((gw_i w 18 0) ≤ a0)) → (((¬ (a1 < 0)) ∧ ((¬ (4 ≤ a1)) ∧ ((¬ (a2 < 0)) ∧ (¬ (2 ≤ a2)))) → (∃ Q1 : Int64 → bw_W → Prop, bw_rl E (d + 2) mX10_formOf [.ref 35, .int a0, .int a1, .int a2] w Q1 ∧ ∀ v2 w3, Q1 v2 w3 →
(∃ Q4 : Int32 → bw_W → Prop, bw_ri E (d + 2) mX11_lettersOrOne [.long v2, .int a3] w3 Q4 ∧ ∀ v5 w6, Q4 v5 w6 →
Q v5 w6))) ∧ (¬ ((¬ (a1 < 0)) ∧ ((¬ (4 ≤ a1)) ∧ ((¬ (a2 < 0)) ∧ (¬ (2 ≤ a2))))) → Q (-1) w))))) : bw_ri E (d + 3) mX11_form [.ref 0, .int a0, .int a1, .int a2, .int a3] w Q := by
  refine bw_enter rfl (Nat.le_of_ble_eq_true rfl) ?_
  refine bw_aload_n (i := 0) dX11_form_0 rfl rfl ?_
  refine bw_iload_n (i := 1) dX11_form_1 rfl rfl ?_
  refine bw_cVb (As := [.int a0]) (st := []) (Q' := (fun v w1 => (decide ((¬ (a0 < 0)) ∧ (¬ ((gw_i w 18 0) ≤ a0)))) = v ∧ w = w1)) cv_BentWords_180 rfl rfl (fs_X11_hasNoun (d := d + 2) (a0 := a0)  ⟨rfl, rfl⟩) rfl rfl (Nat.le_of_ble_eq_true rfl) dX11_form_2 (fun v w1 hv => ?_)
  obtain ⟨rfl, rfl⟩ := hv
  refine bw_ifb_eq (tgt := 16) dX11_form_5 (by decide) (fun c => ?_) (fun c => ?_)
  · replace h := h.1 (of_decide_eq_false c)
    refine bw_iconst (v := (-1)) dX11_form_16 (by decide) ?_
    exact bw_ireturn dX11_form_17 rfl rfl ⟨_, rfl, h⟩
  · replace h := h.2 (of_decide_eq_true c)
    refine bw_iload_n (i := 2) dX11_form_8 rfl rfl ?_
    refine bw_iload_n (i := 3) dX11_form_9 rfl rfl ?_
    refine bw_cSb (As := [.int a1, .int a2]) (st := []) (Q' := (fun v w1 => (decide ((¬ (a1 < 0)) ∧ ((¬ (4 ≤ a1)) ∧ ((¬ (a2 < 0)) ∧ (¬ (2 ≤ a2)))))) = v ∧ w = w1)) cs_BentWords_200 (fs_X11_isSlot (d := d + 2) (a0 := a1) (a1 := a2)  ⟨rfl, rfl⟩) rfl rfl (Nat.le_of_ble_eq_true rfl) dX11_form_10 (fun v w1 hv => ?_)
    obtain ⟨rfl, rfl⟩ := hv
    refine bw_ifb_ne (tgt := 18) dX11_form_13 (by decide) (fun c => ?_) (fun c => ?_)
    · replace h := h.1 (of_decide_eq_true c)
      refine bw_aload_n (i := 0) dX11_form_18 rfl rfl ?_
      refine bw_getr (r := 35) fg_BentWords_70 rfl rfl dX11_form_19 ?_
      refine bw_iload_n (i := 1) dX11_form_22 rfl rfl ?_
      refine bw_iload_n (i := 2) dX11_form_23 rfl rfl ?_
      refine bw_iload_n (i := 3) dX11_form_24 rfl rfl ?_
      obtain ⟨Q1, hr, h⟩ := h
      refine bw_cVl (As := [.int a0, .int a1, .int a2]) (st := []) cv_BentWords_204 rfl rfl hr rfl rfl (Nat.le_of_ble_eq_true rfl) dX11_form_25 (fun v2 w3 hv => ?_)
      replace h := h v2 w3 hv
      clear hr
      refine bw_iload dX11_form_28 rfl ?_
      obtain ⟨Q4, hr, h⟩ := h
      refine bw_cSi (As := [.long v2, .int a3]) (st := []) cs_BentWords_208 hr rfl rfl (Nat.le_of_ble_eq_true rfl) dX11_form_30 (fun v5 w6 hv => ?_)
      replace h := h v5 w6 hv
      clear hr
      exact bw_ireturn dX11_form_33 rfl rfl ⟨_, rfl, h⟩
    · replace h := h.2 (of_decide_eq_false c)
      refine bw_iconst (v := (-1)) dX11_form_16 (by decide) ?_
      exact bw_ireturn dX11_form_17 rfl rfl ⟨_, rfl, h⟩
theorem wfX11_word {E : bw_E} {d : Nat} {w : bw_W} {Q : Int32 → bw_W → Prop} {a0 : Bool} {a1 : Int32} {a2 : Int32} {a3 : Int32} {a4 : Int32}  (h : (((gw_i w 0 5) = 0 → Q (-1) w) ∧ (¬ ((gw_i w 0 5) = 0) → ((¬ ((¬ (a1 < 0)) ∧ ((¬ (4 ≤ a1)) ∧ ((¬ (a2 < 0)) ∧ (¬ (2 ≤ a2))))) → Q (-1) w) ∧ ((¬ (a1 < 0)) ∧ ((¬ (4 ≤ a1)) ∧ ((¬ (a2 < 0)) ∧ (¬ (2 ≤ a2)))) → ((a3 < 0 → Q (-1) w) ∧ (¬ (a3 < 0) → ((a3 < 3 → ((a0 = false → (((vp_in ((((a1 * 2) + a2) * 3) + a3) 24))) ∧
((((gw_l w 22 (((((a1 * 2) + a2) * 3) + a3).toNatClampNeg)) = 0) → (vp_in ((((a1 * 2) + a2) * 3) + 0) 24))) ∧
(∃ Q3 : Int32 → bw_W → Prop, bw_ri E (d + 2) mX11_lettersOrOne [.long (vX3_boundWord w 22 a1 a2 a3), .int a4] w Q3 ∧ ∀ v4 w5, Q3 v4 w5 →
Q v4 w5)) ∧ (a0 = true → (((vp_in ((((a1 * 2) + a2) * 3) + a3) 24))) ∧
((((gw_l w 23 (((((a1 * 2) + a2) * 3) + a3).toNatClampNeg)) = 0) → (vp_in ((((a1 * 2) + a2) * 3) + 0) 24))) ∧
(∃ Q8 : Int32 → bw_W → Prop, bw_ri E (d + 2) mX11_lettersOrOne [.long (vX3_boundWord w 23 a1 a2 a3), .int a4] w Q8 ∧ ∀ v9 w10, Q8 v9 w10 →
Q v9 w10)))) ∧ (¬ (a3 < 3) → Q (-1) w))))))))) : bw_ri E (d + 3) mX11_word [.ref 0, .int (bw_b a0), .int a1, .int a2, .int a3, .int a4] w Q := by
  refine bw_enter rfl (Nat.le_of_ble_eq_true rfl) ?_
  refine bw_aload_n (i := 0) dX11_word_0 rfl rfl ?_
  refine bw_geti fg_BentWords_140 rfl dX11_word_1 ?_
  refine bw_if_eq (tgt := 26) dX11_word_4 (by decide) (fun c => ?_) (fun c => ?_)
  · replace h := h.1 (c)
    refine bw_iconst (v := (-1)) dX11_word_26 (by decide) ?_
    exact bw_ireturn dX11_word_27 rfl rfl ⟨_, rfl, h⟩
  · replace h := h.2 (c)
    refine bw_iload_n (i := 2) dX11_word_7 rfl rfl ?_
    refine bw_iload_n (i := 3) dX11_word_8 rfl rfl ?_
    refine bw_cSb (As := [.int a1, .int a2]) (st := []) (Q' := (fun v w1 => (decide ((¬ (a1 < 0)) ∧ ((¬ (4 ≤ a1)) ∧ ((¬ (a2 < 0)) ∧ (¬ (2 ≤ a2)))))) = v ∧ w = w1)) cs_BentWords_200 (fs_X11_isSlot (d := d + 2) (a0 := a1) (a1 := a2)  ⟨rfl, rfl⟩) rfl rfl (Nat.le_of_ble_eq_true rfl) dX11_word_9 (fun v w1 hv => ?_)
    obtain ⟨rfl, rfl⟩ := hv
    refine bw_ifb_eq (tgt := 26) dX11_word_12 (by decide) (fun c => ?_) (fun c => ?_)
    · replace h := h.1 (of_decide_eq_false c)
      refine bw_iconst (v := (-1)) dX11_word_26 (by decide) ?_
      exact bw_ireturn dX11_word_27 rfl rfl ⟨_, rfl, h⟩
    · replace h := h.2 (of_decide_eq_true c)
      refine bw_iload dX11_word_15 rfl ?_
      refine bw_if_lt (tgt := 26) dX11_word_17 (by decide) (fun c => ?_) (fun c => ?_)
      · replace h := h.1 (c)
        refine bw_iconst (v := (-1)) dX11_word_26 (by decide) ?_
        exact bw_ireturn dX11_word_27 rfl rfl ⟨_, rfl, h⟩
      · replace h := h.2 (c)
        refine bw_iload dX11_word_20 rfl ?_
        refine bw_iconst (v := 3) dX11_word_22 (by decide) ?_
        refine bw_icmp_lt (tgt := 28) dX11_word_23 (by decide) (fun c => ?_) (fun c => ?_)
        · replace h := h.1 (c)
          refine bw_iload_n (i := 1) dX11_word_28 rfl rfl ?_
          refine bw_ifb_eq (tgt := 42) dX11_word_29 (by decide) (fun c => ?_) (fun c => ?_)
          · replace h := h.1 (c)
            refine bw_aload_n (i := 0) dX11_word_42 rfl rfl ?_
            refine bw_getr (r := 18) fg_BentWords_44 rfl rfl dX11_word_43 ?_
            refine bw_getr (r := 22) fg_BentWords_159 rfl rfl dX11_word_46 ?_
            refine bw_astore (i := 6) (L' := [some (.ref 0), some (.int (bw_b a0)), some (.int a1), some (.int a2), some (.int a3), some (.int a4), some (.ref 22)]) dX11_word_49 (Nat.le_of_ble_eq_true rfl) rfl ?_
            refine bw_aload dX11_word_51 rfl ?_
            refine bw_iload_n (i := 2) dX11_word_53 rfl rfl ?_
            refine bw_iload_n (i := 3) dX11_word_54 rfl rfl ?_
            refine bw_iload dX11_word_55 rfl ?_
            obtain ⟨hc1, h⟩ := h
            obtain ⟨hc2, h⟩ := h
            refine bw_cSl (As := [.ref 22, .int a1, .int a2, .int a3]) (st := []) (Q' := (fun v w1 => (vX3_boundWord w 22 a1 a2 a3) = v ∧ w = w1)) cs_BentWords_216 (fs_X3_boundWord (d := d + 1) (a1 := a1) (a2 := a2) (a3 := a3) rfl hc1 hc2 ⟨rfl, rfl⟩) rfl rfl (Nat.le_of_ble_eq_true rfl) dX11_word_57 (fun v w1 hv => ?_)
            obtain ⟨rfl, rfl⟩ := hv
            refine bw_iload dX11_word_60 rfl ?_
            obtain ⟨Q3, hr, h⟩ := h
            refine bw_cSi (As := [.long (vX3_boundWord w 22 a1 a2 a3), .int a4]) (st := []) cs_BentWords_208 hr rfl rfl (Nat.le_of_ble_eq_true rfl) dX11_word_62 (fun v4 w5 hv => ?_)
            replace h := h v4 w5 hv
            clear hr
            exact bw_ireturn dX11_word_65 rfl rfl ⟨_, rfl, h⟩
          · replace h := h.2 (c)
            refine bw_aload_n (i := 0) dX11_word_32 rfl rfl ?_
            refine bw_getr (r := 18) fg_BentWords_44 rfl rfl dX11_word_33 ?_
            refine bw_getr (r := 23) fg_BentWords_167 rfl rfl dX11_word_36 ?_
            refine bw_goto (tgt := 49) dX11_word_39 (by decide) ?_
            refine bw_astore (i := 6) (L' := [some (.ref 0), some (.int (bw_b a0)), some (.int a1), some (.int a2), some (.int a3), some (.int a4), some (.ref 23)]) dX11_word_49 (Nat.le_of_ble_eq_true rfl) rfl ?_
            refine bw_aload dX11_word_51 rfl ?_
            refine bw_iload_n (i := 2) dX11_word_53 rfl rfl ?_
            refine bw_iload_n (i := 3) dX11_word_54 rfl rfl ?_
            refine bw_iload dX11_word_55 rfl ?_
            obtain ⟨hc6, h⟩ := h
            obtain ⟨hc7, h⟩ := h
            refine bw_cSl (As := [.ref 23, .int a1, .int a2, .int a3]) (st := []) (Q' := (fun v w1 => (vX3_boundWord w 23 a1 a2 a3) = v ∧ w = w1)) cs_BentWords_216 (fs_X3_boundWord (d := d + 1) (a1 := a1) (a2 := a2) (a3 := a3) rfl hc6 hc7 ⟨rfl, rfl⟩) rfl rfl (Nat.le_of_ble_eq_true rfl) dX11_word_57 (fun v w1 hv => ?_)
            obtain ⟨rfl, rfl⟩ := hv
            refine bw_iload dX11_word_60 rfl ?_
            obtain ⟨Q8, hr, h⟩ := h
            refine bw_cSi (As := [.long (vX3_boundWord w 23 a1 a2 a3), .int a4]) (st := []) cs_BentWords_208 hr rfl rfl (Nat.le_of_ble_eq_true rfl) dX11_word_62 (fun v9 w10 hv => ?_)
            replace h := h v9 w10 hv
            clear hr
            exact bw_ireturn dX11_word_65 rfl rfl ⟨_, rfl, h⟩
        · replace h := h.2 (c)
          refine bw_iconst (v := (-1)) dX11_word_26 (by decide) ?_
          exact bw_ireturn dX11_word_27 rfl rfl ⟨_, rfl, h⟩
theorem wfX11_slotsOf_6 {E : bw_E} {d : Nat} {w : bw_W} {Q : Int32 → bw_W → Prop} {l1 : Int32} {l2 : Int64} {l4 : Int32} {l5 : Int32}  (h : ((8 ≤ l5 → Q l4 w) ∧ (¬ (8 ≤ l5) → (∃ Q1 : Int64 → bw_W → Prop, bw_rl E (d + 2) mX10_formAt [.ref 35, .int l1, .int l5] w Q1 ∧ ∀ v2 w3, Q1 v2 w3 →
((¬ v2 = l2 → bw_G E (d + 3) mX11_slotsOf 6 [some (.ref 0), some (.int l1), some (.long l2), none, some (.int l4), some (.int (l5 + 1))] [] w3 (bw_qi Q)) ∧ (v2 = l2 → bw_G E (d + 3) mX11_slotsOf 6 [some (.ref 0), some (.int l1), some (.long l2), none, some (.int (l4 ||| ((1 : Int32) <<< (l5 &&& 31)))), some (.int (l5 + 1))] [] w3 (bw_qi Q))))))) : bw_G E (d + 3) mX11_slotsOf 6 [some (.ref 0), some (.int l1), some (.long l2), none, some (.int l4), some (.int l5)] [] w (bw_qi Q) := by
  refine bw_iload dX11_slotsOf_6 rfl ?_
  refine bw_bipush (v := 8) dX11_slotsOf_8 (by decide) ?_
  refine bw_icmp_ge (tgt := 43) dX11_slotsOf_10 (by decide) (fun c => ?_) (fun c => ?_)
  · replace h := h.1 (c)
    refine bw_iload dX11_slotsOf_43 rfl ?_
    exact bw_ireturn dX11_slotsOf_45 rfl rfl ⟨_, rfl, h⟩
  · replace h := h.2 (c)
    refine bw_aload_n (i := 0) dX11_slotsOf_13 rfl rfl ?_
    refine bw_getr (r := 35) fg_BentWords_70 rfl rfl dX11_slotsOf_14 ?_
    refine bw_iload_n (i := 1) dX11_slotsOf_17 rfl rfl ?_
    refine bw_iload dX11_slotsOf_18 rfl ?_
    obtain ⟨Q1, hr, h⟩ := h
    refine bw_cVl (As := [.int l1, .int l5]) (st := []) cv_BentWords_282 rfl rfl hr rfl rfl (Nat.le_of_ble_eq_true rfl) dX11_slotsOf_20 (fun v2 w3 hv => ?_)
    replace h := h v2 w3 hv
    clear hr
    refine bw_lload_n (i := 2) dX11_slotsOf_23 rfl rfl ?_
    refine bw_lcmp_ne (tgt := 37) dX11_slotsOf_24 dX11_slotsOf_25 (by decide) (fun c => ?_) (fun c => ?_)
    · replace h := h.1 (c)
      refine bw_iinc (i := 5) (x := l5) (v := (l5 + 1)) (L' := [some (.ref 0), some (.int l1), some (.long l2), none, some (.int l4), some (.int (l5 + 1))]) dX11_slotsOf_37 rfl rfl (Nat.le_of_ble_eq_true rfl) rfl ?_
      refine bw_goto (tgt := 6) dX11_slotsOf_40 (by decide) ?_
      exact h
    · replace h := h.2 (c)
      refine bw_iload dX11_slotsOf_28 rfl ?_
      refine bw_iconst (v := 1) dX11_slotsOf_30 (by decide) ?_
      refine bw_iload dX11_slotsOf_31 rfl ?_
      refine bw_ishl dX11_slotsOf_33 ?_
      refine bw_ior dX11_slotsOf_34 ?_
      refine bw_istore (i := 4) (L' := [some (.ref 0), some (.int l1), some (.long l2), none, some (.int (l4 ||| ((1 : Int32) <<< (l5 &&& 31)))), some (.int l5)]) dX11_slotsOf_35 (Nat.le_of_ble_eq_true rfl) rfl ?_
      refine bw_iinc (i := 5) (x := l5) (v := (l5 + 1)) (L' := [some (.ref 0), some (.int l1), some (.long l2), none, some (.int (l4 ||| ((1 : Int32) <<< (l5 &&& 31)))), some (.int (l5 + 1))]) dX11_slotsOf_37 rfl rfl (Nat.le_of_ble_eq_true rfl) rfl ?_
      refine bw_goto (tgt := 6) dX11_slotsOf_40 (by decide) ?_
      exact h
theorem wfX11_slotsOf {E : bw_E} {d : Nat} {w : bw_W} {Q : Int32 → bw_W → Prop} {a0 : Int32} {a1 : Int64}  (h : bw_G E (d + 3) mX11_slotsOf 6 [some (.ref 0), some (.int a0), some (.long a1), none, some (.int 0), some (.int 0)] [] w (bw_qi Q)) : bw_ri E (d + 3) mX11_slotsOf [.ref 0, .int a0, .long a1] w Q := by
  refine bw_enter rfl (Nat.le_of_ble_eq_true rfl) ?_
  refine bw_iconst (v := 0) dX11_slotsOf_0 (by decide) ?_
  refine bw_istore (i := 4) (L' := [some (.ref 0), some (.int a0), some (.long a1), none, some (.int 0), none]) dX11_slotsOf_1 (Nat.le_of_ble_eq_true rfl) rfl ?_
  refine bw_iconst (v := 0) dX11_slotsOf_3 (by decide) ?_
  refine bw_istore (i := 5) (L' := [some (.ref 0), some (.int a0), some (.long a1), none, some (.int 0), some (.int 0)]) dX11_slotsOf_4 (Nat.le_of_ble_eq_true rfl) rfl ?_
  exact h
theorem wfX12_takesSign {E : bw_E} {d : Nat} {w : bw_W} {Q : Bool → bw_W → Prop} {a0 : Int32}  (h : ((¬ (((gw_i w 50 10) = (-1)) ∧ (((gw_i w 50 4) = 3) ∧ ((gw_i w 50 8) = a0))) → Q (decide (((gw_i w 50 10) = (-1)) ∧ (((gw_i w 50 4) = 3) ∧ ((gw_i w 50 8) = a0)))) w) ∧ (((gw_i w 50 10) = (-1)) ∧ (((gw_i w 50 4) = 3) ∧ ((gw_i w 50 8) = a0)) → (∃ Q1 : bw_W → Prop, bw_rv E (d + 2) mX12_next [.ref 50] w Q1 ∧ ∀ w3, Q1 w3 →
Q (decide (((gw_i w 50 10) = (-1)) ∧ (((gw_i w 50 4) = 3) ∧ ((gw_i w 50 8) = a0)))) w3)))) : bw_rb E (d + 3) mX12_takesSign [.ref 50, .int a0] w Q := by
  refine bw_enter rfl (Nat.le_of_ble_eq_true rfl) ?_
  refine bw_aload_n (i := 0) dX12_takesSign_0 rfl rfl ?_
  refine bw_iload_n (i := 1) dX12_takesSign_1 rfl rfl ?_
  refine bw_cVb (As := [.int a0]) (st := []) (Q' := (fun v w1 => (decide (((gw_i w 50 10) = (-1)) ∧ (((gw_i w 50 4) = 3) ∧ ((gw_i w 50 8) = a0)))) = v ∧ w = w1)) cv_BentWordsModel_157 rfl rfl (fs_X12_isSign (d := d + 2) (a0 := a0)  ⟨rfl, rfl⟩) rfl rfl (Nat.le_of_ble_eq_true rfl) dX12_takesSign_2 (fun v w1 hv => ?_)
  obtain ⟨rfl, rfl⟩ := hv
  refine bw_istore_n (i := 2) (L' := [some (.ref 50), some (.int a0), some (.int (bw_b (decide (((gw_i w 50 10) = (-1)) ∧ (((gw_i w 50 4) = 3) ∧ ((gw_i w 50 8) = a0))))))]) dX12_takesSign_5 rfl (Nat.le_of_ble_eq_true rfl) rfl ?_
  refine bw_iload_n (i := 2) dX12_takesSign_6 rfl rfl ?_
  refine bw_ifb_eq (tgt := 14) dX12_takesSign_7 (by decide) (fun c => ?_) (fun c => ?_)
  · replace h := h.1 (of_decide_eq_false c)
    refine bw_iload_n (i := 2) dX12_takesSign_14 rfl rfl ?_
    exact bw_ireturn dX12_takesSign_15 rfl (bw_nb _) ⟨_, rfl, h⟩
  · replace h := h.2 (of_decide_eq_true c)
    refine bw_aload_n (i := 0) dX12_takesSign_10 rfl rfl ?_
    obtain ⟨Q1, hr, h⟩ := h
    refine bw_cVv (As := []) (st := []) cv_BentWordsModel_160 rfl rfl hr rfl rfl (Nat.le_of_ble_eq_true rfl) dX12_takesSign_11 (fun w3 hv => ?_)
    replace h := h w3 hv
    clear hr
    refine bw_iload_n (i := 2) dX12_takesSign_14 rfl rfl ?_
    exact bw_ireturn dX12_takesSign_15 rfl (bw_nb _) ⟨_, rfl, h⟩
theorem wfX12_anyWord {E : bw_E} {d : Nat} {w : bw_W} {Q : Int64 → bw_W → Prop}   (h : ((¬ (gw_i w 50 10) = (-1) → Q 0 (sw_i w 50 10 (if ¬ (gw_i w 50 10) = (-1) then (gw_i w 50 10) else (gw_i w 50 5)))) ∧ ((gw_i w 50 10) = (-1) → ((((gw_i w 50 4) = 1) ∧ (¬ (8 < (gw_i w 50 9))) → (∃ Q1 : bw_W → Prop, bw_rv E (d + 2) mX12_next [.ref 50] w Q1 ∧ ∀ w3, Q1 w3 →
Q (gw_l w 50 11) w3)) ∧ (¬ (((gw_i w 50 4) = 1) ∧ (¬ (8 < (gw_i w 50 9)))) → Q 0 (sw_i w 50 10 (if ¬ (gw_i w 50 10) = (-1) then (gw_i w 50 10) else (gw_i w 50 5)))))))) : bw_rl E (d + 3) mX12_anyWord [.ref 50] w Q := by
  refine bw_enter rfl (Nat.le_of_ble_eq_true rfl) ?_
  refine bw_aload_n (i := 0) dX12_anyWord_0 rfl rfl ?_
  refine bw_geti fg_BentWordsModel_150 rfl dX12_anyWord_1 ?_
  refine bw_iconst (v := (-1)) dX12_anyWord_4 (by decide) ?_
  refine bw_icmp_ne (tgt := 15) dX12_anyWord_5 (by decide) (fun c => ?_) (fun c => ?_)
  · replace h := h.1 (c)
    refine bw_aload_n (i := 0) dX12_anyWord_15 rfl rfl ?_
    refine bw_cVv (As := []) (st := []) (Q' := (fun w1 => (sw_i w 50 10 (if ¬ (gw_i w 50 10) = (-1) then (gw_i w 50 10) else (gw_i w 50 5))) = w1)) cv_BentWordsModel_167 rfl rfl (fs_X12_bad (d := d + 1)   rfl) rfl rfl (Nat.le_of_ble_eq_true rfl) dX12_anyWord_16 (fun w1 hv => ?_)
    subst hv
    refine bw_lconst (v := 0) dX12_anyWord_19 rfl ?_
    exact bw_lreturn dX12_anyWord_20 rfl ⟨_, rfl, h⟩
  · replace h := h.2 (c)
    refine bw_aload_n (i := 0) dX12_anyWord_8 rfl rfl ?_
    refine bw_cVb (As := []) (st := []) (Q' := (fun v w1 => (decide (((gw_i w 50 4) = 1) ∧ (¬ (8 < (gw_i w 50 9))))) = v ∧ w = w1)) cv_BentWordsModel_163 rfl rfl (fs_X12_isGood (d := d + 2)   ⟨rfl, rfl⟩) rfl rfl (Nat.le_of_ble_eq_true rfl) dX12_anyWord_9 (fun v w1 hv => ?_)
    obtain ⟨rfl, rfl⟩ := hv
    refine bw_ifb_ne (tgt := 21) dX12_anyWord_12 (by decide) (fun c => ?_) (fun c => ?_)
    · replace h := h.1 (of_decide_eq_true c)
      refine bw_aload_n (i := 0) dX12_anyWord_21 rfl rfl ?_
      refine bw_getl fg_BentWordsModel_107 rfl dX12_anyWord_22 ?_
      refine bw_lstore_n (i := 1) (L' := [some (.ref 50), some (.long (gw_l w 50 11)), none]) dX12_anyWord_25 rfl (Nat.le_of_ble_eq_true rfl) rfl ?_
      refine bw_aload_n (i := 0) dX12_anyWord_26 rfl rfl ?_
      obtain ⟨Q1, hr, h⟩ := h
      refine bw_cVv (As := []) (st := []) cv_BentWordsModel_160 rfl rfl hr rfl rfl (Nat.le_of_ble_eq_true rfl) dX12_anyWord_27 (fun w3 hv => ?_)
      replace h := h w3 hv
      clear hr
      refine bw_lload_n (i := 1) dX12_anyWord_30 rfl rfl ?_
      exact bw_lreturn dX12_anyWord_31 rfl ⟨_, rfl, h⟩
    · replace h := h.2 (of_decide_eq_false c)
      refine bw_aload_n (i := 0) dX12_anyWord_15 rfl rfl ?_
      refine bw_cVv (As := []) (st := []) (Q' := (fun w1 => (sw_i w 50 10 (if ¬ (gw_i w 50 10) = (-1) then (gw_i w 50 10) else (gw_i w 50 5))) = w1)) cv_BentWordsModel_167 rfl rfl (fs_X12_bad (d := d + 1)   rfl) rfl rfl (Nat.le_of_ble_eq_true rfl) dX12_anyWord_16 (fun w1 hv => ?_)
      subst hv
      refine bw_lconst (v := 0) dX12_anyWord_19 rfl ?_
      exact bw_lreturn dX12_anyWord_20 rfl ⟨_, rfl, h⟩
theorem wfX12_numberOf {E : bw_E} {d : Nat} {w : bw_W} {Q : Int32 → bw_W → Prop} {a0 : Int32} {a1 : Int32}  (h : ((¬ (gw_i w 50 10) = (-1) → Q 0 (sw_i w 50 10 (if ¬ (gw_i w 50 10) = (-1) then (gw_i w 50 10) else (gw_i w 50 5)))) ∧ ((gw_i w 50 10) = (-1) → ((¬ (gw_i w 50 4) = 2 → Q 0 (sw_i w 50 10 (if ¬ (gw_i w 50 10) = (-1) then (gw_i w 50 10) else (gw_i w 50 5)))) ∧ ((gw_i w 50 4) = 2 → ((a0 < (gw_i w 50 7) → Q 0 (sw_i w 50 10 (if ¬ (gw_i w 50 10) = (-1) then (gw_i w 50 10) else (gw_i w 50 5)))) ∧ (¬ (a0 < (gw_i w 50 7)) → (((gw_i w 50 6) ≤ a1 → (∃ Q1 : bw_W → Prop, bw_rv E (d + 2) mX12_next [.ref 50] w Q1 ∧ ∀ w3, Q1 w3 →
Q (gw_i w 50 6) w3)) ∧ (¬ ((gw_i w 50 6) ≤ a1) → Q 0 (sw_i w 50 10 (if ¬ (gw_i w 50 10) = (-1) then (gw_i w 50 10) else (gw_i w 50 5)))))))))))) : bw_ri E (d + 3) mX12_numberOf [.ref 50, .int a0, .int a1] w Q := by
  refine bw_enter rfl (Nat.le_of_ble_eq_true rfl) ?_
  refine bw_aload_n (i := 0) dX12_numberOf_0 rfl rfl ?_
  refine bw_geti fg_BentWordsModel_150 rfl dX12_numberOf_1 ?_
  refine bw_iconst (v := (-1)) dX12_numberOf_4 (by decide) ?_
  refine bw_icmp_ne (tgt := 32) dX12_numberOf_5 (by decide) (fun c => ?_) (fun c => ?_)
  · replace h := h.1 (c)
    refine bw_aload_n (i := 0) dX12_numberOf_32 rfl rfl ?_
    refine bw_cVv (As := []) (st := []) (Q' := (fun w1 => (sw_i w 50 10 (if ¬ (gw_i w 50 10) = (-1) then (gw_i w 50 10) else (gw_i w 50 5))) = w1)) cv_BentWordsModel_167 rfl rfl (fs_X12_bad (d := d + 1)   rfl) rfl rfl (Nat.le_of_ble_eq_true rfl) dX12_numberOf_33 (fun w1 hv => ?_)
    subst hv
    refine bw_iconst (v := 0) dX12_numberOf_36 (by decide) ?_
    exact bw_ireturn dX12_numberOf_37 rfl rfl ⟨_, rfl, h⟩
  · replace h := h.2 (c)
    refine bw_aload_n (i := 0) dX12_numberOf_8 rfl rfl ?_
    refine bw_geti fg_BentWordsModel_126 rfl dX12_numberOf_9 ?_
    refine bw_iconst (v := 2) dX12_numberOf_12 (by decide) ?_
    refine bw_icmp_ne (tgt := 32) dX12_numberOf_13 (by decide) (fun c => ?_) (fun c => ?_)
    · replace h := h.1 (c)
      refine bw_aload_n (i := 0) dX12_numberOf_32 rfl rfl ?_
      refine bw_cVv (As := []) (st := []) (Q' := (fun w1 => (sw_i w 50 10 (if ¬ (gw_i w 50 10) = (-1) then (gw_i w 50 10) else (gw_i w 50 5))) = w1)) cv_BentWordsModel_167 rfl rfl (fs_X12_bad (d := d + 1)   rfl) rfl rfl (Nat.le_of_ble_eq_true rfl) dX12_numberOf_33 (fun w1 hv => ?_)
      subst hv
      refine bw_iconst (v := 0) dX12_numberOf_36 (by decide) ?_
      exact bw_ireturn dX12_numberOf_37 rfl rfl ⟨_, rfl, h⟩
    · replace h := h.2 (c)
      refine bw_aload_n (i := 0) dX12_numberOf_16 rfl rfl ?_
      refine bw_geti fg_BentWordsModel_132 rfl dX12_numberOf_17 ?_
      refine bw_iload_n (i := 1) dX12_numberOf_20 rfl rfl ?_
      refine bw_icmp_gt (tgt := 32) dX12_numberOf_21 (by decide) (fun c => ?_) (fun c => ?_)
      · replace h := h.1 (c)
        refine bw_aload_n (i := 0) dX12_numberOf_32 rfl rfl ?_
        refine bw_cVv (As := []) (st := []) (Q' := (fun w1 => (sw_i w 50 10 (if ¬ (gw_i w 50 10) = (-1) then (gw_i w 50 10) else (gw_i w 50 5))) = w1)) cv_BentWordsModel_167 rfl rfl (fs_X12_bad (d := d + 1)   rfl) rfl rfl (Nat.le_of_ble_eq_true rfl) dX12_numberOf_33 (fun w1 hv => ?_)
        subst hv
        refine bw_iconst (v := 0) dX12_numberOf_36 (by decide) ?_
        exact bw_ireturn dX12_numberOf_37 rfl rfl ⟨_, rfl, h⟩
      · replace h := h.2 (c)
        refine bw_aload_n (i := 0) dX12_numberOf_24 rfl rfl ?_
        refine bw_geti fg_BentWordsModel_129 rfl dX12_numberOf_25 ?_
        refine bw_iload_n (i := 2) dX12_numberOf_28 rfl rfl ?_
        refine bw_icmp_le (tgt := 38) dX12_numberOf_29 (by decide) (fun c => ?_) (fun c => ?_)
        · replace h := h.1 (c)
          refine bw_aload_n (i := 0) dX12_numberOf_38 rfl rfl ?_
          refine bw_geti fg_BentWordsModel_129 rfl dX12_numberOf_39 ?_
          refine bw_istore_n (i := 3) (L' := [some (.ref 50), some (.int a0), some (.int a1), some (.int (gw_i w 50 6))]) dX12_numberOf_42 rfl (Nat.le_of_ble_eq_true rfl) rfl ?_
          refine bw_aload_n (i := 0) dX12_numberOf_43 rfl rfl ?_
          obtain ⟨Q1, hr, h⟩ := h
          refine bw_cVv (As := []) (st := []) cv_BentWordsModel_160 rfl rfl hr rfl rfl (Nat.le_of_ble_eq_true rfl) dX12_numberOf_44 (fun w3 hv => ?_)
          replace h := h w3 hv
          clear hr
          refine bw_iload_n (i := 3) dX12_numberOf_47 rfl rfl ?_
          exact bw_ireturn dX12_numberOf_48 rfl rfl ⟨_, rfl, h⟩
        · replace h := h.2 (c)
          refine bw_aload_n (i := 0) dX12_numberOf_32 rfl rfl ?_
          refine bw_cVv (As := []) (st := []) (Q' := (fun w1 => (sw_i w 50 10 (if ¬ (gw_i w 50 10) = (-1) then (gw_i w 50 10) else (gw_i w 50 5))) = w1)) cv_BentWordsModel_167 rfl rfl (fs_X12_bad (d := d + 1)   rfl) rfl rfl (Nat.le_of_ble_eq_true rfl) dX12_numberOf_33 (fun w1 hv => ?_)
          subst hv
          refine bw_iconst (v := 0) dX12_numberOf_36 (by decide) ?_
          exact bw_ireturn dX12_numberOf_37 rfl rfl ⟨_, rfl, h⟩
theorem wfX12_formOf {E : bw_E} {d : Nat} {w : bw_W} {Q : Int64 → bw_W → Prop} {a0 : Int32} {a1 : Int32} {a2 : Int32}  (h : (∃ Q1 : Int32 → bw_W → Prop, bw_ri E (d + 2) mX12_defaultOf [.ref 50, .int a0, .int a1, .int a2] w Q1 ∧ ∀ v2 w3, Q1 v2 w3 →
((v2 = 0 → (((vp_in ((7 + (8 * a0)) + ((2 * a1) + a2)) 236))) ∧
Q (vX12_told w3 a0 a1 a2) w3) ∧ (v2 = 1 → (((vp_in ((7 + (8 * a0)) + ((2 * 0) + a2)) 236))) ∧
Q (vX12_told w3 a0 0 a2) w3) ∧ (v2 = 2 → (((vp_in ((7 + (8 * a0)) + ((2 * a1) + 0)) 236))) ∧
Q (vX12_told w3 a0 a1 0) w3) ∧ (v2 = 3 → (((vp_in ((7 + (8 * a0)) + ((2 * 0) + 0)) 236))) ∧
Q (vX12_told w3 a0 0 0) w3) ∧ (v2.toInt < 0 ∨ 3 < v2.toInt → (vp_in a0 6) ∧
Q (gw_l w3 65 (a0.toNatClampNeg)) w3)))) : bw_rl E (d + 3) mX12_formOf [.ref 50, .int a0, .int a1, .int a2] w Q := by
  refine bw_enter rfl (Nat.le_of_ble_eq_true rfl) ?_
  refine bw_aload_n (i := 0) dX12_formOf_0 rfl rfl ?_
  refine bw_iload_n (i := 1) dX12_formOf_1 rfl rfl ?_
  refine bw_iload_n (i := 2) dX12_formOf_2 rfl rfl ?_
  refine bw_iload_n (i := 3) dX12_formOf_3 rfl rfl ?_
  obtain ⟨Q1, hr, h⟩ := h
  refine bw_cVi (As := [.int a0, .int a1, .int a2]) (st := []) cv_BentWordsModel_300 rfl rfl hr rfl rfl (Nat.le_of_ble_eq_true rfl) dX12_formOf_4 (fun v2 w3 hv => ?_)
  replace h := h v2 w3 hv
  clear hr
  refine bw_tabsw dX12_formOf_7 [36, 44, 52, 60] 68 (by decide) rfl rfl (fun j hj hx => ?_) (fun hx => ?_)
  · match j, hj, hx with
    | 0, _, hx =>
      replace h := h.1 (bw_ti hx (by decide))
      refine bw_aload_n (i := 0) dX12_formOf_36 rfl rfl ?_
      refine bw_iload_n (i := 1) dX12_formOf_37 rfl rfl ?_
      refine bw_iload_n (i := 2) dX12_formOf_38 rfl rfl ?_
      refine bw_iload_n (i := 3) dX12_formOf_39 rfl rfl ?_
      obtain ⟨hc4, h⟩ := h
      refine bw_cVl (As := [.int a0, .int a1, .int a2]) (st := []) (Q' := (fun v w1 => (vX12_told w3 a0 a1 a2) = v ∧ w3 = w1)) cv_BentWordsModel_296 rfl rfl (fs_X12_told (d := d + 1) (a0 := a0) (a1 := a1) (a2 := a2) hc4 ⟨rfl, rfl⟩) rfl rfl (Nat.le_of_ble_eq_true rfl) dX12_formOf_40 (fun v w1 hv => ?_)
      obtain ⟨rfl, rfl⟩ := hv
      exact bw_lreturn dX12_formOf_43 rfl ⟨_, rfl, h⟩
    | 1, _, hx =>
      replace h := h.2.1 (bw_ti hx (by decide))
      refine bw_aload_n (i := 0) dX12_formOf_44 rfl rfl ?_
      refine bw_iload_n (i := 1) dX12_formOf_45 rfl rfl ?_
      refine bw_iconst (v := 0) dX12_formOf_46 (by decide) ?_
      refine bw_iload_n (i := 3) dX12_formOf_47 rfl rfl ?_
      obtain ⟨hc5, h⟩ := h
      refine bw_cVl (As := [.int a0, .int 0, .int a2]) (st := []) (Q' := (fun v w1 => (vX12_told w3 a0 0 a2) = v ∧ w3 = w1)) cv_BentWordsModel_296 rfl rfl (fs_X12_told (d := d + 1) (a0 := a0) (a1 := 0) (a2 := a2) hc5 ⟨rfl, rfl⟩) rfl rfl (Nat.le_of_ble_eq_true rfl) dX12_formOf_48 (fun v w1 hv => ?_)
      obtain ⟨rfl, rfl⟩ := hv
      exact bw_lreturn dX12_formOf_51 rfl ⟨_, rfl, h⟩
    | 2, _, hx =>
      replace h := h.2.2.1 (bw_ti hx (by decide))
      refine bw_aload_n (i := 0) dX12_formOf_52 rfl rfl ?_
      refine bw_iload_n (i := 1) dX12_formOf_53 rfl rfl ?_
      refine bw_iload_n (i := 2) dX12_formOf_54 rfl rfl ?_
      refine bw_iconst (v := 0) dX12_formOf_55 (by decide) ?_
      obtain ⟨hc6, h⟩ := h
      refine bw_cVl (As := [.int a0, .int a1, .int 0]) (st := []) (Q' := (fun v w1 => (vX12_told w3 a0 a1 0) = v ∧ w3 = w1)) cv_BentWordsModel_296 rfl rfl (fs_X12_told (d := d + 1) (a0 := a0) (a1 := a1) (a2 := 0) hc6 ⟨rfl, rfl⟩) rfl rfl (Nat.le_of_ble_eq_true rfl) dX12_formOf_56 (fun v w1 hv => ?_)
      obtain ⟨rfl, rfl⟩ := hv
      exact bw_lreturn dX12_formOf_59 rfl ⟨_, rfl, h⟩
    | 3, _, hx =>
      replace h := h.2.2.2.1 (bw_ti hx (by decide))
      refine bw_aload_n (i := 0) dX12_formOf_60 rfl rfl ?_
      refine bw_iload_n (i := 1) dX12_formOf_61 rfl rfl ?_
      refine bw_iconst (v := 0) dX12_formOf_62 (by decide) ?_
      refine bw_iconst (v := 0) dX12_formOf_63 (by decide) ?_
      obtain ⟨hc7, h⟩ := h
      refine bw_cVl (As := [.int a0, .int 0, .int 0]) (st := []) (Q' := (fun v w1 => (vX12_told w3 a0 0 0) = v ∧ w3 = w1)) cv_BentWordsModel_296 rfl rfl (fs_X12_told (d := d + 1) (a0 := a0) (a1 := 0) (a2 := 0) hc7 ⟨rfl, rfl⟩) rfl rfl (Nat.le_of_ble_eq_true rfl) dX12_formOf_64 (fun v w1 hv => ?_)
      obtain ⟨rfl, rfl⟩ := hv
      exact bw_lreturn dX12_formOf_67 rfl ⟨_, rfl, h⟩
    | j + 4, hj, _ => exact absurd hj (by simp)
  · replace h := h.2.2.2.2 hx
    refine bw_aload_n (i := 0) dX12_formOf_68 rfl rfl ?_
    refine bw_getr (r := 65) fg_BentWordsModel_53 rfl rfl dX12_formOf_69 ?_
    refine bw_iload_n (i := 1) dX12_formOf_72 rfl rfl ?_
    obtain ⟨hi8, h⟩ := h
    refine bw_laload rfl hi8 dX12_formOf_73 ?_
    exact bw_lreturn dX12_formOf_74 rfl ⟨_, rfl, h⟩
theorem wfX12_whyItemNot {E : bw_E} {d : Nat} {w : bw_W} {Q : Int32 → bw_W → Prop} {a0 : Int32} {a1 : Int32} {a2 : Int32}  (h : ((¬ a0 = 0 → (((vp_in (1 + (2 * a1)) 236))) ∧
(((vX12_nounIn w a1) = (-1) → Q 0 w) ∧ (¬ ((vX12_nounIn w a1) = (-1)) → ((a0 < 5 → ((¬ a0 = 5 → ((¬ a0 = 6 → (((gw_l w 63 0) = 0 → Q (-1) w) ∧ (¬ (gw_l w 63 0) = 0 → ((¬ a0 = 4 → ((a0 = 1 → ((a0 = 3 → Q (-1) w) ∧ (¬ (a0 = 3) → (((vp_in (1 + (2 * a1)) 236))) ∧
(((((vp_in ((1 + (2 * a1)) + 1) 236))))) ∧
(∃ Q4 : Int32 → bw_W → Prop, bw_ri E (d + 2) mX12_defaultOf [.ref 50, .int (vX12_nounIn w a1), .int a2, .int (vX12_numberIn w a1)] w Q4 ∧ ∀ v5 w6, Q4 v5 w6 →
((v5 ≤ 0 → Q (-1) w6) ∧ (¬ (v5 ≤ 0) → Q 1 w6)))))) ∧ (¬ (a0 = 1) → ((¬ a0 = 3 → (((((vp_in ((1 + (2 * a1)) + 1) 236))))) ∧
(((vp_in (1 + (2 * a1)) 236))) ∧
(vp_in (vX12_nounIn w a1) 6) ∧
(((vp_in (vX12_wordAt false a2 (vX12_numberIn w a1) (gw_i w 66 ((vX12_nounIn w a1).toNatClampNeg))) 48))) ∧
(((¬ (gw_l w 67 ((vX12_wordAt false a2 (vX12_numberIn w a1) (gw_i w 66 ((vX12_nounIn w a1).toNatClampNeg))).toNatClampNeg)) = 0) → ((a0 = 3 → Q (-1) w) ∧ (¬ (a0 = 3) → (((vp_in (1 + (2 * a1)) 236))) ∧
(((((vp_in ((1 + (2 * a1)) + 1) 236))))) ∧
(∃ Q13 : Int32 → bw_W → Prop, bw_ri E (d + 2) mX12_defaultOf [.ref 50, .int (vX12_nounIn w a1), .int a2, .int (vX12_numberIn w a1)] w Q13 ∧ ∀ v14 w15, Q13 v14 w15 →
((v14 ≤ 0 → Q (-1) w15) ∧ (¬ (v14 ≤ 0) → Q 1 w15)))))) ∧ (¬ (¬ (gw_l w 67 ((vX12_wordAt false a2 (vX12_numberIn w a1) (gw_i w 66 ((vX12_nounIn w a1).toNatClampNeg))).toNatClampNeg)) = 0) → Q 4 w))) ∧ (a0 = 3 → (((((vp_in ((1 + (2 * a1)) + 1) 236))))) ∧
(((vp_in (1 + (2 * a1)) 236))) ∧
(vp_in (vX12_nounIn w a1) 6) ∧
(((vp_in (vX12_wordAt true a2 (vX12_numberIn w a1) (gw_i w 66 ((vX12_nounIn w a1).toNatClampNeg))) 48))) ∧
(((¬ (gw_l w 67 ((vX12_wordAt true a2 (vX12_numberIn w a1) (gw_i w 66 ((vX12_nounIn w a1).toNatClampNeg))).toNatClampNeg)) = 0) → ((a0 = 3 → Q (-1) w) ∧ (¬ (a0 = 3) → (((vp_in (1 + (2 * a1)) 236))) ∧
(((((vp_in ((1 + (2 * a1)) + 1) 236))))) ∧
(∃ Q22 : Int32 → bw_W → Prop, bw_ri E (d + 2) mX12_defaultOf [.ref 50, .int (vX12_nounIn w a1), .int a2, .int (vX12_numberIn w a1)] w Q22 ∧ ∀ v23 w24, Q22 v23 w24 →
((v23 ≤ 0 → Q (-1) w24) ∧ (¬ (v23 ≤ 0) → Q 1 w24)))))) ∧ (¬ (¬ (gw_l w 67 ((vX12_wordAt true a2 (vX12_numberIn w a1) (gw_i w 66 ((vX12_nounIn w a1).toNatClampNeg))).toNatClampNeg)) = 0) → Q 4 w))))))) ∧ (a0 = 4 → Q (-1) w))))) ∧ (a0 = 6 → (((vp_in (1 + (2 * a1)) 236))) ∧
(vp_in (vX12_nounIn w a1) 6) ∧
(((vp_in (1 + (2 * a2)) 236))) ∧
(vp_in (vX12_nounIn w a2) 6) ∧
((¬ (gw_i w 66 ((vX12_nounIn w a1).toNatClampNeg)) = (gw_i w 66 ((vX12_nounIn w a2).toNatClampNeg)) → Q 3 w) ∧ ((gw_i w 66 ((vX12_nounIn w a1).toNatClampNeg)) = (gw_i w 66 ((vX12_nounIn w a2).toNatClampNeg)) → Q (-1) w))))) ∧ (a0 = 5 → (((((vp_in ((1 + (2 * a1)) + 1) 236))))) ∧
(((((vp_in ((1 + (2 * a2)) + 1) 236))))) ∧
((¬ (vX12_numberIn w a1) = (vX12_numberIn w a2) → Q 2 w) ∧ ((vX12_numberIn w a1) = (vX12_numberIn w a2) → Q (-1) w))))) ∧ (¬ (a0 < 5) → (((vp_in (1 + (2 * a2)) 236))) ∧
((¬ (vX12_nounIn w a2) = (-1) → ((¬ a0 = 5 → ((¬ a0 = 6 → (((gw_l w 63 0) = 0 → Q (-1) w) ∧ (¬ (gw_l w 63 0) = 0 → ((¬ a0 = 4 → ((a0 = 1 → ((a0 = 3 → Q (-1) w) ∧ (¬ (a0 = 3) → (((vp_in (1 + (2 * a1)) 236))) ∧
(((((vp_in ((1 + (2 * a1)) + 1) 236))))) ∧
(∃ Q34 : Int32 → bw_W → Prop, bw_ri E (d + 2) mX12_defaultOf [.ref 50, .int (vX12_nounIn w a1), .int a2, .int (vX12_numberIn w a1)] w Q34 ∧ ∀ v35 w36, Q34 v35 w36 →
((v35 ≤ 0 → Q (-1) w36) ∧ (¬ (v35 ≤ 0) → Q 1 w36)))))) ∧ (¬ (a0 = 1) → ((¬ a0 = 3 → (((((vp_in ((1 + (2 * a1)) + 1) 236))))) ∧
(((vp_in (1 + (2 * a1)) 236))) ∧
(vp_in (vX12_nounIn w a1) 6) ∧
(((vp_in (vX12_wordAt false a2 (vX12_numberIn w a1) (gw_i w 66 ((vX12_nounIn w a1).toNatClampNeg))) 48))) ∧
(((¬ (gw_l w 67 ((vX12_wordAt false a2 (vX12_numberIn w a1) (gw_i w 66 ((vX12_nounIn w a1).toNatClampNeg))).toNatClampNeg)) = 0) → ((a0 = 3 → Q (-1) w) ∧ (¬ (a0 = 3) → (((vp_in (1 + (2 * a1)) 236))) ∧
(((((vp_in ((1 + (2 * a1)) + 1) 236))))) ∧
(∃ Q43 : Int32 → bw_W → Prop, bw_ri E (d + 2) mX12_defaultOf [.ref 50, .int (vX12_nounIn w a1), .int a2, .int (vX12_numberIn w a1)] w Q43 ∧ ∀ v44 w45, Q43 v44 w45 →
((v44 ≤ 0 → Q (-1) w45) ∧ (¬ (v44 ≤ 0) → Q 1 w45)))))) ∧ (¬ (¬ (gw_l w 67 ((vX12_wordAt false a2 (vX12_numberIn w a1) (gw_i w 66 ((vX12_nounIn w a1).toNatClampNeg))).toNatClampNeg)) = 0) → Q 4 w))) ∧ (a0 = 3 → (((((vp_in ((1 + (2 * a1)) + 1) 236))))) ∧
(((vp_in (1 + (2 * a1)) 236))) ∧
(vp_in (vX12_nounIn w a1) 6) ∧
(((vp_in (vX12_wordAt true a2 (vX12_numberIn w a1) (gw_i w 66 ((vX12_nounIn w a1).toNatClampNeg))) 48))) ∧
(((¬ (gw_l w 67 ((vX12_wordAt true a2 (vX12_numberIn w a1) (gw_i w 66 ((vX12_nounIn w a1).toNatClampNeg))).toNatClampNeg)) = 0) → ((a0 = 3 → Q (-1) w) ∧ (¬ (a0 = 3) → (((vp_in (1 + (2 * a1)) 236))) ∧
(((((vp_in ((1 + (2 * a1)) + 1) 236))))) ∧
(∃ Q52 : Int32 → bw_W → Prop, bw_ri E (d + 2) mX12_defaultOf [.ref 50, .int (vX12_nounIn w a1), .int a2, .int (vX12_numberIn w a1)] w Q52 ∧ ∀ v53 w54, Q52 v53 w54 →
((v53 ≤ 0 → Q (-1) w54) ∧ (¬ (v53 ≤ 0) → Q 1 w54)))))) ∧ (¬ (¬ (gw_l w 67 ((vX12_wordAt true a2 (vX12_numberIn w a1) (gw_i w 66 ((vX12_nounIn w a1).toNatClampNeg))).toNatClampNeg)) = 0) → Q 4 w))))))) ∧ (a0 = 4 → Q (-1) w))))) ∧ (a0 = 6 → (((vp_in (1 + (2 * a1)) 236))) ∧
(vp_in (vX12_nounIn w a1) 6) ∧
(((vp_in (1 + (2 * a2)) 236))) ∧
(vp_in (vX12_nounIn w a2) 6) ∧
((¬ (gw_i w 66 ((vX12_nounIn w a1).toNatClampNeg)) = (gw_i w 66 ((vX12_nounIn w a2).toNatClampNeg)) → Q 3 w) ∧ ((gw_i w 66 ((vX12_nounIn w a1).toNatClampNeg)) = (gw_i w 66 ((vX12_nounIn w a2).toNatClampNeg)) → Q (-1) w))))) ∧ (a0 = 5 → (((((vp_in ((1 + (2 * a1)) + 1) 236))))) ∧
(((((vp_in ((1 + (2 * a2)) + 1) 236))))) ∧
((¬ (vX12_numberIn w a1) = (vX12_numberIn w a2) → Q 2 w) ∧ ((vX12_numberIn w a1) = (vX12_numberIn w a2) → Q (-1) w))))) ∧ ((vX12_nounIn w a2) = (-1) → Q 0 w))))))) ∧ (a0 = 0 → Q (-1) w))) : bw_ri E (d + 3) mX12_whyItemNot [.ref 50, .int a0, .int a1, .int a2] w Q := by
  refine bw_enter rfl (Nat.le_of_ble_eq_true rfl) ?_
  refine bw_iload_n (i := 1) dX12_whyItemNot_0 rfl rfl ?_
  refine bw_if_ne (tgt := 6) dX12_whyItemNot_1 (by decide) (fun c => ?_) (fun c => ?_)
  · replace h := h.1 (c)
    refine bw_aload_n (i := 0) dX12_whyItemNot_6 rfl rfl ?_
    refine bw_iload_n (i := 2) dX12_whyItemNot_7 rfl rfl ?_
    obtain ⟨hc1, h⟩ := h
    refine bw_cVi (As := [.int a1]) (st := []) (Q' := (fun v w1 => (vX12_nounIn w a1) = v ∧ w = w1)) cv_BentWordsModel_330 rfl rfl (fs_X12_nounIn (d := d + 2) (a0 := a1) hc1 ⟨rfl, rfl⟩) rfl rfl (Nat.le_of_ble_eq_true rfl) dX12_whyItemNot_8 (fun v w1 hv => ?_)
    obtain ⟨rfl, rfl⟩ := hv
    refine bw_iconst (v := (-1)) dX12_whyItemNot_11 (by decide) ?_
    refine bw_icmp_eq (tgt := 29) dX12_whyItemNot_12 (by decide) (fun c => ?_) (fun c => ?_)
    · replace h := h.1 (c)
      refine bw_iconst (v := 0) dX12_whyItemNot_29 (by decide) ?_
      exact bw_ireturn dX12_whyItemNot_30 rfl rfl ⟨_, rfl, h⟩
    · replace h := h.2 (c)
      refine bw_iload_n (i := 1) dX12_whyItemNot_15 rfl rfl ?_
      refine bw_iconst (v := 5) dX12_whyItemNot_16 (by decide) ?_
      refine bw_icmp_lt (tgt := 31) dX12_whyItemNot_17 (by decide) (fun c => ?_) (fun c => ?_)
      · replace h := h.1 (c)
        refine bw_iload_n (i := 1) dX12_whyItemNot_31 rfl rfl ?_
        refine bw_iconst (v := 5) dX12_whyItemNot_32 (by decide) ?_
        refine bw_icmp_ne (tgt := 55) dX12_whyItemNot_33 (by decide) (fun c => ?_) (fun c => ?_)
        · replace h := h.1 (c)
          refine bw_iload_n (i := 1) dX12_whyItemNot_55 rfl rfl ?_
          refine bw_bipush (v := 6) dX12_whyItemNot_56 (by decide) ?_
          refine bw_icmp_ne (tgt := 90) dX12_whyItemNot_58 (by decide) (fun c => ?_) (fun c => ?_)
          · replace h := h.1 (c)
            refine bw_aload_n (i := 0) dX12_whyItemNot_90 rfl rfl ?_
            refine bw_getr (r := 63) fg_BentWordsModel_47 rfl rfl dX12_whyItemNot_91 ?_
            refine bw_iconst (v := 0) dX12_whyItemNot_94 (by decide) ?_
            refine bw_laload rfl (by unfold vp_in; decide) dX12_whyItemNot_95 ?_
            rw [show gw_l w 63 (Int32.toNatClampNeg 0) = (gw_l w 63 0) from rfl]
            refine bw_lconst (v := 0) dX12_whyItemNot_96 rfl ?_
            refine bw_lcmp_eq (tgt := 106) dX12_whyItemNot_97 dX12_whyItemNot_98 (by decide) (fun c => ?_) (fun c => ?_)
            · replace h := h.1 (c)
              refine bw_iconst (v := (-1)) dX12_whyItemNot_106 (by decide) ?_
              exact bw_ireturn dX12_whyItemNot_107 rfl rfl ⟨_, rfl, h⟩
            · replace h := h.2 (c)
              refine bw_iload_n (i := 1) dX12_whyItemNot_101 rfl rfl ?_
              refine bw_iconst (v := 4) dX12_whyItemNot_102 (by decide) ?_
              refine bw_icmp_ne (tgt := 108) dX12_whyItemNot_103 (by decide) (fun c => ?_) (fun c => ?_)
              · replace h := h.1 (c)
                refine bw_iload_n (i := 1) dX12_whyItemNot_108 rfl rfl ?_
                refine bw_iconst (v := 1) dX12_whyItemNot_109 (by decide) ?_
                refine bw_icmp_eq (tgt := 148) dX12_whyItemNot_110 (by decide) (fun c => ?_) (fun c => ?_)
                · replace h := h.1 (c)
                  refine bw_iload_n (i := 1) dX12_whyItemNot_148 rfl rfl ?_
                  refine bw_iconst (v := 3) dX12_whyItemNot_149 (by decide) ?_
                  refine bw_icmp_eq (tgt := 175) dX12_whyItemNot_150 (by decide) (fun c => ?_) (fun c => ?_)
                  · replace h := h.1 (c)
                    refine bw_iconst (v := (-1)) dX12_whyItemNot_175 (by decide) ?_
                    exact bw_ireturn dX12_whyItemNot_176 rfl rfl ⟨_, rfl, h⟩
                  · replace h := h.2 (c)
                    refine bw_aload_n (i := 0) dX12_whyItemNot_153 rfl rfl ?_
                    refine bw_aload_n (i := 0) dX12_whyItemNot_154 rfl rfl ?_
                    refine bw_iload_n (i := 2) dX12_whyItemNot_155 rfl rfl ?_
                    obtain ⟨hc2, h⟩ := h
                    refine bw_cVi (As := [.int a1]) (st := [.ref 50]) (Q' := (fun v w1 => (vX12_nounIn w a1) = v ∧ w = w1)) cv_BentWordsModel_330 rfl rfl (fs_X12_nounIn (d := d + 2) (a0 := a1) hc2 ⟨rfl, rfl⟩) rfl rfl (Nat.le_of_ble_eq_true rfl) dX12_whyItemNot_156 (fun v w1 hv => ?_)
                    obtain ⟨rfl, rfl⟩ := hv
                    refine bw_iload_n (i := 3) dX12_whyItemNot_159 rfl rfl ?_
                    refine bw_aload_n (i := 0) dX12_whyItemNot_160 rfl rfl ?_
                    refine bw_iload_n (i := 2) dX12_whyItemNot_161 rfl rfl ?_
                    obtain ⟨hc3, h⟩ := h
                    refine bw_cVi (As := [.int a1]) (st := [.int a2, .int (vX12_nounIn w a1), .ref 50]) (Q' := (fun v w1 => (vX12_numberIn w a1) = v ∧ w = w1)) cv_BentWordsModel_333 rfl rfl (fs_X12_numberIn (d := d + 1) (a0 := a1) hc3 ⟨rfl, rfl⟩) rfl rfl (Nat.le_of_ble_eq_true rfl) dX12_whyItemNot_162 (fun v w1 hv => ?_)
                    obtain ⟨rfl, rfl⟩ := hv
                    obtain ⟨Q4, hr, h⟩ := h
                    refine bw_cVi (As := [.int (vX12_nounIn w a1), .int a2, .int (vX12_numberIn w a1)]) (st := []) cv_BentWordsModel_300 rfl rfl hr rfl rfl (Nat.le_of_ble_eq_true rfl) dX12_whyItemNot_165 (fun v5 w6 hv => ?_)
                    replace h := h v5 w6 hv
                    clear hr
                    refine bw_if_le (tgt := 175) dX12_whyItemNot_168 (by decide) (fun c => ?_) (fun c => ?_)
                    · replace h := h.1 (c)
                      refine bw_iconst (v := (-1)) dX12_whyItemNot_175 (by decide) ?_
                      exact bw_ireturn dX12_whyItemNot_176 rfl rfl ⟨_, rfl, h⟩
                    · replace h := h.2 (c)
                      refine bw_iconst (v := 1) dX12_whyItemNot_171 (by decide) ?_
                      refine bw_goto (tgt := 176) dX12_whyItemNot_172 (by decide) ?_
                      exact bw_ireturn dX12_whyItemNot_176 rfl rfl ⟨_, rfl, h⟩
                · replace h := h.2 (c)
                  refine bw_aload_n (i := 0) dX12_whyItemNot_113 rfl rfl ?_
                  refine bw_iload_n (i := 1) dX12_whyItemNot_114 rfl rfl ?_
                  refine bw_iconst (v := 3) dX12_whyItemNot_115 (by decide) ?_
                  refine bw_icmp_ne (tgt := 123) dX12_whyItemNot_116 (by decide) (fun c => ?_) (fun c => ?_)
                  · replace h := h.1 (c)
                    refine bw_iconst (v := 0) dX12_whyItemNot_123 (by decide) ?_
                    refine bw_iload_n (i := 3) dX12_whyItemNot_124 rfl rfl ?_
                    refine bw_aload_n (i := 0) dX12_whyItemNot_125 rfl rfl ?_
                    refine bw_iload_n (i := 2) dX12_whyItemNot_126 rfl rfl ?_
                    obtain ⟨hc7, h⟩ := h
                    refine bw_cVi (As := [.int a1]) (st := [.int a2, .int 0, .ref 50]) (Q' := (fun v w1 => (vX12_numberIn w a1) = v ∧ w = w1)) cv_BentWordsModel_333 rfl rfl (fs_X12_numberIn (d := d + 1) (a0 := a1) hc7 ⟨rfl, rfl⟩) rfl rfl (Nat.le_of_ble_eq_true rfl) dX12_whyItemNot_127 (fun v w1 hv => ?_)
                    obtain ⟨rfl, rfl⟩ := hv
                    refine bw_aload_n (i := 0) dX12_whyItemNot_130 rfl rfl ?_
                    refine bw_getr (r := 66) fg_BentWordsModel_56 rfl rfl dX12_whyItemNot_131 ?_
                    refine bw_aload_n (i := 0) dX12_whyItemNot_134 rfl rfl ?_
                    refine bw_iload_n (i := 2) dX12_whyItemNot_135 rfl rfl ?_
                    obtain ⟨hc8, h⟩ := h
                    refine bw_cVi (As := [.int a1]) (st := [.ref 66, .int (vX12_numberIn w a1), .int a2, .int 0, .ref 50]) (Q' := (fun v w1 => (vX12_nounIn w a1) = v ∧ w = w1)) cv_BentWordsModel_330 rfl rfl (fs_X12_nounIn (d := d + 2) (a0 := a1) hc8 ⟨rfl, rfl⟩) rfl rfl (Nat.le_of_ble_eq_true rfl) dX12_whyItemNot_136 (fun v w1 hv => ?_)
                    obtain ⟨rfl, rfl⟩ := hv
                    obtain ⟨hi9, h⟩ := h
                    refine bw_iaload rfl hi9 dX12_whyItemNot_139 ?_
                    obtain ⟨hc10, h⟩ := h
                    refine bw_cVb (As := [.int 0, .int a2, .int (vX12_numberIn w a1), .int (gw_i w 66 ((vX12_nounIn w a1).toNatClampNeg))]) (st := []) (Q' := (fun v w1 => (decide (¬ (gw_l w 67 ((vX12_wordAt false a2 (vX12_numberIn w a1) (gw_i w 66 ((vX12_nounIn w a1).toNatClampNeg))).toNatClampNeg)) = 0)) = v ∧ w = w1)) cv_BentWordsModel_336 rfl rfl (fs_X12_isWordTold (d := d + 0) (a0 := false) (a1 := a2) (a2 := (vX12_numberIn w a1)) (a3 := (gw_i w 66 ((vX12_nounIn w a1).toNatClampNeg))) hc10 ⟨rfl, rfl⟩) rfl rfl (Nat.le_of_ble_eq_true rfl) dX12_whyItemNot_140 (fun v w1 hv => ?_)
                    obtain ⟨rfl, rfl⟩ := hv
                    refine bw_ifb_ne (tgt := 148) dX12_whyItemNot_143 (by decide) (fun c => ?_) (fun c => ?_)
                    · replace h := h.1 (of_decide_eq_true c)
                      refine bw_iload_n (i := 1) dX12_whyItemNot_148 rfl rfl ?_
                      refine bw_iconst (v := 3) dX12_whyItemNot_149 (by decide) ?_
                      refine bw_icmp_eq (tgt := 175) dX12_whyItemNot_150 (by decide) (fun c => ?_) (fun c => ?_)
                      · replace h := h.1 (c)
                        refine bw_iconst (v := (-1)) dX12_whyItemNot_175 (by decide) ?_
                        exact bw_ireturn dX12_whyItemNot_176 rfl rfl ⟨_, rfl, h⟩
                      · replace h := h.2 (c)
                        refine bw_aload_n (i := 0) dX12_whyItemNot_153 rfl rfl ?_
                        refine bw_aload_n (i := 0) dX12_whyItemNot_154 rfl rfl ?_
                        refine bw_iload_n (i := 2) dX12_whyItemNot_155 rfl rfl ?_
                        obtain ⟨hc11, h⟩ := h
                        refine bw_cVi (As := [.int a1]) (st := [.ref 50]) (Q' := (fun v w1 => (vX12_nounIn w a1) = v ∧ w = w1)) cv_BentWordsModel_330 rfl rfl (fs_X12_nounIn (d := d + 2) (a0 := a1) hc11 ⟨rfl, rfl⟩) rfl rfl (Nat.le_of_ble_eq_true rfl) dX12_whyItemNot_156 (fun v w1 hv => ?_)
                        obtain ⟨rfl, rfl⟩ := hv
                        refine bw_iload_n (i := 3) dX12_whyItemNot_159 rfl rfl ?_
                        refine bw_aload_n (i := 0) dX12_whyItemNot_160 rfl rfl ?_
                        refine bw_iload_n (i := 2) dX12_whyItemNot_161 rfl rfl ?_
                        obtain ⟨hc12, h⟩ := h
                        refine bw_cVi (As := [.int a1]) (st := [.int a2, .int (vX12_nounIn w a1), .ref 50]) (Q' := (fun v w1 => (vX12_numberIn w a1) = v ∧ w = w1)) cv_BentWordsModel_333 rfl rfl (fs_X12_numberIn (d := d + 1) (a0 := a1) hc12 ⟨rfl, rfl⟩) rfl rfl (Nat.le_of_ble_eq_true rfl) dX12_whyItemNot_162 (fun v w1 hv => ?_)
                        obtain ⟨rfl, rfl⟩ := hv
                        obtain ⟨Q13, hr, h⟩ := h
                        refine bw_cVi (As := [.int (vX12_nounIn w a1), .int a2, .int (vX12_numberIn w a1)]) (st := []) cv_BentWordsModel_300 rfl rfl hr rfl rfl (Nat.le_of_ble_eq_true rfl) dX12_whyItemNot_165 (fun v14 w15 hv => ?_)
                        replace h := h v14 w15 hv
                        clear hr
                        refine bw_if_le (tgt := 175) dX12_whyItemNot_168 (by decide) (fun c => ?_) (fun c => ?_)
                        · replace h := h.1 (c)
                          refine bw_iconst (v := (-1)) dX12_whyItemNot_175 (by decide) ?_
                          exact bw_ireturn dX12_whyItemNot_176 rfl rfl ⟨_, rfl, h⟩
                        · replace h := h.2 (c)
                          refine bw_iconst (v := 1) dX12_whyItemNot_171 (by decide) ?_
                          refine bw_goto (tgt := 176) dX12_whyItemNot_172 (by decide) ?_
                          exact bw_ireturn dX12_whyItemNot_176 rfl rfl ⟨_, rfl, h⟩
                    · replace h := h.2 (of_decide_eq_false c)
                      refine bw_iconst (v := 4) dX12_whyItemNot_146 (by decide) ?_
                      exact bw_ireturn dX12_whyItemNot_147 rfl rfl ⟨_, rfl, h⟩
                  · replace h := h.2 (c)
                    refine bw_iconst (v := 1) dX12_whyItemNot_119 (by decide) ?_
                    refine bw_goto (tgt := 124) dX12_whyItemNot_120 (by decide) ?_
                    refine bw_iload_n (i := 3) dX12_whyItemNot_124 rfl rfl ?_
                    refine bw_aload_n (i := 0) dX12_whyItemNot_125 rfl rfl ?_
                    refine bw_iload_n (i := 2) dX12_whyItemNot_126 rfl rfl ?_
                    obtain ⟨hc16, h⟩ := h
                    refine bw_cVi (As := [.int a1]) (st := [.int a2, .int 1, .ref 50]) (Q' := (fun v w1 => (vX12_numberIn w a1) = v ∧ w = w1)) cv_BentWordsModel_333 rfl rfl (fs_X12_numberIn (d := d + 1) (a0 := a1) hc16 ⟨rfl, rfl⟩) rfl rfl (Nat.le_of_ble_eq_true rfl) dX12_whyItemNot_127 (fun v w1 hv => ?_)
                    obtain ⟨rfl, rfl⟩ := hv
                    refine bw_aload_n (i := 0) dX12_whyItemNot_130 rfl rfl ?_
                    refine bw_getr (r := 66) fg_BentWordsModel_56 rfl rfl dX12_whyItemNot_131 ?_
                    refine bw_aload_n (i := 0) dX12_whyItemNot_134 rfl rfl ?_
                    refine bw_iload_n (i := 2) dX12_whyItemNot_135 rfl rfl ?_
                    obtain ⟨hc17, h⟩ := h
                    refine bw_cVi (As := [.int a1]) (st := [.ref 66, .int (vX12_numberIn w a1), .int a2, .int 1, .ref 50]) (Q' := (fun v w1 => (vX12_nounIn w a1) = v ∧ w = w1)) cv_BentWordsModel_330 rfl rfl (fs_X12_nounIn (d := d + 2) (a0 := a1) hc17 ⟨rfl, rfl⟩) rfl rfl (Nat.le_of_ble_eq_true rfl) dX12_whyItemNot_136 (fun v w1 hv => ?_)
                    obtain ⟨rfl, rfl⟩ := hv
                    obtain ⟨hi18, h⟩ := h
                    refine bw_iaload rfl hi18 dX12_whyItemNot_139 ?_
                    obtain ⟨hc19, h⟩ := h
                    refine bw_cVb (As := [.int 1, .int a2, .int (vX12_numberIn w a1), .int (gw_i w 66 ((vX12_nounIn w a1).toNatClampNeg))]) (st := []) (Q' := (fun v w1 => (decide (¬ (gw_l w 67 ((vX12_wordAt true a2 (vX12_numberIn w a1) (gw_i w 66 ((vX12_nounIn w a1).toNatClampNeg))).toNatClampNeg)) = 0)) = v ∧ w = w1)) cv_BentWordsModel_336 rfl rfl (fs_X12_isWordTold (d := d + 0) (a0 := true) (a1 := a2) (a2 := (vX12_numberIn w a1)) (a3 := (gw_i w 66 ((vX12_nounIn w a1).toNatClampNeg))) hc19 ⟨rfl, rfl⟩) rfl rfl (Nat.le_of_ble_eq_true rfl) dX12_whyItemNot_140 (fun v w1 hv => ?_)
                    obtain ⟨rfl, rfl⟩ := hv
                    refine bw_ifb_ne (tgt := 148) dX12_whyItemNot_143 (by decide) (fun c => ?_) (fun c => ?_)
                    · replace h := h.1 (of_decide_eq_true c)
                      refine bw_iload_n (i := 1) dX12_whyItemNot_148 rfl rfl ?_
                      refine bw_iconst (v := 3) dX12_whyItemNot_149 (by decide) ?_
                      refine bw_icmp_eq (tgt := 175) dX12_whyItemNot_150 (by decide) (fun c => ?_) (fun c => ?_)
                      · replace h := h.1 (c)
                        refine bw_iconst (v := (-1)) dX12_whyItemNot_175 (by decide) ?_
                        exact bw_ireturn dX12_whyItemNot_176 rfl rfl ⟨_, rfl, h⟩
                      · replace h := h.2 (c)
                        refine bw_aload_n (i := 0) dX12_whyItemNot_153 rfl rfl ?_
                        refine bw_aload_n (i := 0) dX12_whyItemNot_154 rfl rfl ?_
                        refine bw_iload_n (i := 2) dX12_whyItemNot_155 rfl rfl ?_
                        obtain ⟨hc20, h⟩ := h
                        refine bw_cVi (As := [.int a1]) (st := [.ref 50]) (Q' := (fun v w1 => (vX12_nounIn w a1) = v ∧ w = w1)) cv_BentWordsModel_330 rfl rfl (fs_X12_nounIn (d := d + 2) (a0 := a1) hc20 ⟨rfl, rfl⟩) rfl rfl (Nat.le_of_ble_eq_true rfl) dX12_whyItemNot_156 (fun v w1 hv => ?_)
                        obtain ⟨rfl, rfl⟩ := hv
                        refine bw_iload_n (i := 3) dX12_whyItemNot_159 rfl rfl ?_
                        refine bw_aload_n (i := 0) dX12_whyItemNot_160 rfl rfl ?_
                        refine bw_iload_n (i := 2) dX12_whyItemNot_161 rfl rfl ?_
                        obtain ⟨hc21, h⟩ := h
                        refine bw_cVi (As := [.int a1]) (st := [.int a2, .int (vX12_nounIn w a1), .ref 50]) (Q' := (fun v w1 => (vX12_numberIn w a1) = v ∧ w = w1)) cv_BentWordsModel_333 rfl rfl (fs_X12_numberIn (d := d + 1) (a0 := a1) hc21 ⟨rfl, rfl⟩) rfl rfl (Nat.le_of_ble_eq_true rfl) dX12_whyItemNot_162 (fun v w1 hv => ?_)
                        obtain ⟨rfl, rfl⟩ := hv
                        obtain ⟨Q22, hr, h⟩ := h
                        refine bw_cVi (As := [.int (vX12_nounIn w a1), .int a2, .int (vX12_numberIn w a1)]) (st := []) cv_BentWordsModel_300 rfl rfl hr rfl rfl (Nat.le_of_ble_eq_true rfl) dX12_whyItemNot_165 (fun v23 w24 hv => ?_)
                        replace h := h v23 w24 hv
                        clear hr
                        refine bw_if_le (tgt := 175) dX12_whyItemNot_168 (by decide) (fun c => ?_) (fun c => ?_)
                        · replace h := h.1 (c)
                          refine bw_iconst (v := (-1)) dX12_whyItemNot_175 (by decide) ?_
                          exact bw_ireturn dX12_whyItemNot_176 rfl rfl ⟨_, rfl, h⟩
                        · replace h := h.2 (c)
                          refine bw_iconst (v := 1) dX12_whyItemNot_171 (by decide) ?_
                          refine bw_goto (tgt := 176) dX12_whyItemNot_172 (by decide) ?_
                          exact bw_ireturn dX12_whyItemNot_176 rfl rfl ⟨_, rfl, h⟩
                    · replace h := h.2 (of_decide_eq_false c)
                      refine bw_iconst (v := 4) dX12_whyItemNot_146 (by decide) ?_
                      exact bw_ireturn dX12_whyItemNot_147 rfl rfl ⟨_, rfl, h⟩
              · replace h := h.2 (c)
                refine bw_iconst (v := (-1)) dX12_whyItemNot_106 (by decide) ?_
                exact bw_ireturn dX12_whyItemNot_107 rfl rfl ⟨_, rfl, h⟩
          · replace h := h.2 (c)
            refine bw_aload_n (i := 0) dX12_whyItemNot_61 rfl rfl ?_
            refine bw_getr (r := 66) fg_BentWordsModel_56 rfl rfl dX12_whyItemNot_62 ?_
            refine bw_aload_n (i := 0) dX12_whyItemNot_65 rfl rfl ?_
            refine bw_iload_n (i := 2) dX12_whyItemNot_66 rfl rfl ?_
            obtain ⟨hc25, h⟩ := h
            refine bw_cVi (As := [.int a1]) (st := [.ref 66]) (Q' := (fun v w1 => (vX12_nounIn w a1) = v ∧ w = w1)) cv_BentWordsModel_330 rfl rfl (fs_X12_nounIn (d := d + 2) (a0 := a1) hc25 ⟨rfl, rfl⟩) rfl rfl (Nat.le_of_ble_eq_true rfl) dX12_whyItemNot_67 (fun v w1 hv => ?_)
            obtain ⟨rfl, rfl⟩ := hv
            obtain ⟨hi26, h⟩ := h
            refine bw_iaload rfl hi26 dX12_whyItemNot_70 ?_
            refine bw_aload_n (i := 0) dX12_whyItemNot_71 rfl rfl ?_
            refine bw_getr (r := 66) fg_BentWordsModel_56 rfl rfl dX12_whyItemNot_72 ?_
            refine bw_aload_n (i := 0) dX12_whyItemNot_75 rfl rfl ?_
            refine bw_iload_n (i := 3) dX12_whyItemNot_76 rfl rfl ?_
            obtain ⟨hc27, h⟩ := h
            refine bw_cVi (As := [.int a2]) (st := [.ref 66, .int (gw_i w 66 ((vX12_nounIn w a1).toNatClampNeg))]) (Q' := (fun v w1 => (vX12_nounIn w a2) = v ∧ w = w1)) cv_BentWordsModel_330 rfl rfl (fs_X12_nounIn (d := d + 2) (a0 := a2) hc27 ⟨rfl, rfl⟩) rfl rfl (Nat.le_of_ble_eq_true rfl) dX12_whyItemNot_77 (fun v w1 hv => ?_)
            obtain ⟨rfl, rfl⟩ := hv
            obtain ⟨hi28, h⟩ := h
            refine bw_iaload rfl hi28 dX12_whyItemNot_80 ?_
            refine bw_icmp_ne (tgt := 88) dX12_whyItemNot_81 (by decide) (fun c => ?_) (fun c => ?_)
            · replace h := h.1 (c)
              refine bw_iconst (v := 3) dX12_whyItemNot_88 (by decide) ?_
              exact bw_ireturn dX12_whyItemNot_89 rfl rfl ⟨_, rfl, h⟩
            · replace h := h.2 (c)
              refine bw_iconst (v := (-1)) dX12_whyItemNot_84 (by decide) ?_
              refine bw_goto (tgt := 89) dX12_whyItemNot_85 (by decide) ?_
              exact bw_ireturn dX12_whyItemNot_89 rfl rfl ⟨_, rfl, h⟩
        · replace h := h.2 (c)
          refine bw_aload_n (i := 0) dX12_whyItemNot_36 rfl rfl ?_
          refine bw_iload_n (i := 2) dX12_whyItemNot_37 rfl rfl ?_
          obtain ⟨hc29, h⟩ := h
          refine bw_cVi (As := [.int a1]) (st := []) (Q' := (fun v w1 => (vX12_numberIn w a1) = v ∧ w = w1)) cv_BentWordsModel_333 rfl rfl (fs_X12_numberIn (d := d + 1) (a0 := a1) hc29 ⟨rfl, rfl⟩) rfl rfl (Nat.le_of_ble_eq_true rfl) dX12_whyItemNot_38 (fun v w1 hv => ?_)
          obtain ⟨rfl, rfl⟩ := hv
          refine bw_aload_n (i := 0) dX12_whyItemNot_41 rfl rfl ?_
          refine bw_iload_n (i := 3) dX12_whyItemNot_42 rfl rfl ?_
          obtain ⟨hc30, h⟩ := h
          refine bw_cVi (As := [.int a2]) (st := [.int (vX12_numberIn w a1)]) (Q' := (fun v w1 => (vX12_numberIn w a2) = v ∧ w = w1)) cv_BentWordsModel_333 rfl rfl (fs_X12_numberIn (d := d + 1) (a0 := a2) hc30 ⟨rfl, rfl⟩) rfl rfl (Nat.le_of_ble_eq_true rfl) dX12_whyItemNot_43 (fun v w1 hv => ?_)
          obtain ⟨rfl, rfl⟩ := hv
          refine bw_icmp_ne (tgt := 53) dX12_whyItemNot_46 (by decide) (fun c => ?_) (fun c => ?_)
          · replace h := h.1 (c)
            refine bw_iconst (v := 2) dX12_whyItemNot_53 (by decide) ?_
            exact bw_ireturn dX12_whyItemNot_54 rfl rfl ⟨_, rfl, h⟩
          · replace h := h.2 (c)
            refine bw_iconst (v := (-1)) dX12_whyItemNot_49 (by decide) ?_
            refine bw_goto (tgt := 54) dX12_whyItemNot_50 (by decide) ?_
            exact bw_ireturn dX12_whyItemNot_54 rfl rfl ⟨_, rfl, h⟩
      · replace h := h.2 (c)
        refine bw_aload_n (i := 0) dX12_whyItemNot_20 rfl rfl ?_
        refine bw_iload_n (i := 3) dX12_whyItemNot_21 rfl rfl ?_
        obtain ⟨hc31, h⟩ := h
        refine bw_cVi (As := [.int a2]) (st := []) (Q' := (fun v w1 => (vX12_nounIn w a2) = v ∧ w = w1)) cv_BentWordsModel_330 rfl rfl (fs_X12_nounIn (d := d + 2) (a0 := a2) hc31 ⟨rfl, rfl⟩) rfl rfl (Nat.le_of_ble_eq_true rfl) dX12_whyItemNot_22 (fun v w1 hv => ?_)
        obtain ⟨rfl, rfl⟩ := hv
        refine bw_iconst (v := (-1)) dX12_whyItemNot_25 (by decide) ?_
        refine bw_icmp_ne (tgt := 31) dX12_whyItemNot_26 (by decide) (fun c => ?_) (fun c => ?_)
        · replace h := h.1 (c)
          refine bw_iload_n (i := 1) dX12_whyItemNot_31 rfl rfl ?_
          refine bw_iconst (v := 5) dX12_whyItemNot_32 (by decide) ?_
          refine bw_icmp_ne (tgt := 55) dX12_whyItemNot_33 (by decide) (fun c => ?_) (fun c => ?_)
          · replace h := h.1 (c)
            refine bw_iload_n (i := 1) dX12_whyItemNot_55 rfl rfl ?_
            refine bw_bipush (v := 6) dX12_whyItemNot_56 (by decide) ?_
            refine bw_icmp_ne (tgt := 90) dX12_whyItemNot_58 (by decide) (fun c => ?_) (fun c => ?_)
            · replace h := h.1 (c)
              refine bw_aload_n (i := 0) dX12_whyItemNot_90 rfl rfl ?_
              refine bw_getr (r := 63) fg_BentWordsModel_47 rfl rfl dX12_whyItemNot_91 ?_
              refine bw_iconst (v := 0) dX12_whyItemNot_94 (by decide) ?_
              refine bw_laload rfl (by unfold vp_in; decide) dX12_whyItemNot_95 ?_
              rw [show gw_l w 63 (Int32.toNatClampNeg 0) = (gw_l w 63 0) from rfl]
              refine bw_lconst (v := 0) dX12_whyItemNot_96 rfl ?_
              refine bw_lcmp_eq (tgt := 106) dX12_whyItemNot_97 dX12_whyItemNot_98 (by decide) (fun c => ?_) (fun c => ?_)
              · replace h := h.1 (c)
                refine bw_iconst (v := (-1)) dX12_whyItemNot_106 (by decide) ?_
                exact bw_ireturn dX12_whyItemNot_107 rfl rfl ⟨_, rfl, h⟩
              · replace h := h.2 (c)
                refine bw_iload_n (i := 1) dX12_whyItemNot_101 rfl rfl ?_
                refine bw_iconst (v := 4) dX12_whyItemNot_102 (by decide) ?_
                refine bw_icmp_ne (tgt := 108) dX12_whyItemNot_103 (by decide) (fun c => ?_) (fun c => ?_)
                · replace h := h.1 (c)
                  refine bw_iload_n (i := 1) dX12_whyItemNot_108 rfl rfl ?_
                  refine bw_iconst (v := 1) dX12_whyItemNot_109 (by decide) ?_
                  refine bw_icmp_eq (tgt := 148) dX12_whyItemNot_110 (by decide) (fun c => ?_) (fun c => ?_)
                  · replace h := h.1 (c)
                    refine bw_iload_n (i := 1) dX12_whyItemNot_148 rfl rfl ?_
                    refine bw_iconst (v := 3) dX12_whyItemNot_149 (by decide) ?_
                    refine bw_icmp_eq (tgt := 175) dX12_whyItemNot_150 (by decide) (fun c => ?_) (fun c => ?_)
                    · replace h := h.1 (c)
                      refine bw_iconst (v := (-1)) dX12_whyItemNot_175 (by decide) ?_
                      exact bw_ireturn dX12_whyItemNot_176 rfl rfl ⟨_, rfl, h⟩
                    · replace h := h.2 (c)
                      refine bw_aload_n (i := 0) dX12_whyItemNot_153 rfl rfl ?_
                      refine bw_aload_n (i := 0) dX12_whyItemNot_154 rfl rfl ?_
                      refine bw_iload_n (i := 2) dX12_whyItemNot_155 rfl rfl ?_
                      obtain ⟨hc32, h⟩ := h
                      refine bw_cVi (As := [.int a1]) (st := [.ref 50]) (Q' := (fun v w1 => (vX12_nounIn w a1) = v ∧ w = w1)) cv_BentWordsModel_330 rfl rfl (fs_X12_nounIn (d := d + 2) (a0 := a1) hc32 ⟨rfl, rfl⟩) rfl rfl (Nat.le_of_ble_eq_true rfl) dX12_whyItemNot_156 (fun v w1 hv => ?_)
                      obtain ⟨rfl, rfl⟩ := hv
                      refine bw_iload_n (i := 3) dX12_whyItemNot_159 rfl rfl ?_
                      refine bw_aload_n (i := 0) dX12_whyItemNot_160 rfl rfl ?_
                      refine bw_iload_n (i := 2) dX12_whyItemNot_161 rfl rfl ?_
                      obtain ⟨hc33, h⟩ := h
                      refine bw_cVi (As := [.int a1]) (st := [.int a2, .int (vX12_nounIn w a1), .ref 50]) (Q' := (fun v w1 => (vX12_numberIn w a1) = v ∧ w = w1)) cv_BentWordsModel_333 rfl rfl (fs_X12_numberIn (d := d + 1) (a0 := a1) hc33 ⟨rfl, rfl⟩) rfl rfl (Nat.le_of_ble_eq_true rfl) dX12_whyItemNot_162 (fun v w1 hv => ?_)
                      obtain ⟨rfl, rfl⟩ := hv
                      obtain ⟨Q34, hr, h⟩ := h
                      refine bw_cVi (As := [.int (vX12_nounIn w a1), .int a2, .int (vX12_numberIn w a1)]) (st := []) cv_BentWordsModel_300 rfl rfl hr rfl rfl (Nat.le_of_ble_eq_true rfl) dX12_whyItemNot_165 (fun v35 w36 hv => ?_)
                      replace h := h v35 w36 hv
                      clear hr
                      refine bw_if_le (tgt := 175) dX12_whyItemNot_168 (by decide) (fun c => ?_) (fun c => ?_)
                      · replace h := h.1 (c)
                        refine bw_iconst (v := (-1)) dX12_whyItemNot_175 (by decide) ?_
                        exact bw_ireturn dX12_whyItemNot_176 rfl rfl ⟨_, rfl, h⟩
                      · replace h := h.2 (c)
                        refine bw_iconst (v := 1) dX12_whyItemNot_171 (by decide) ?_
                        refine bw_goto (tgt := 176) dX12_whyItemNot_172 (by decide) ?_
                        exact bw_ireturn dX12_whyItemNot_176 rfl rfl ⟨_, rfl, h⟩
                  · replace h := h.2 (c)
                    refine bw_aload_n (i := 0) dX12_whyItemNot_113 rfl rfl ?_
                    refine bw_iload_n (i := 1) dX12_whyItemNot_114 rfl rfl ?_
                    refine bw_iconst (v := 3) dX12_whyItemNot_115 (by decide) ?_
                    refine bw_icmp_ne (tgt := 123) dX12_whyItemNot_116 (by decide) (fun c => ?_) (fun c => ?_)
                    · replace h := h.1 (c)
                      refine bw_iconst (v := 0) dX12_whyItemNot_123 (by decide) ?_
                      refine bw_iload_n (i := 3) dX12_whyItemNot_124 rfl rfl ?_
                      refine bw_aload_n (i := 0) dX12_whyItemNot_125 rfl rfl ?_
                      refine bw_iload_n (i := 2) dX12_whyItemNot_126 rfl rfl ?_
                      obtain ⟨hc37, h⟩ := h
                      refine bw_cVi (As := [.int a1]) (st := [.int a2, .int 0, .ref 50]) (Q' := (fun v w1 => (vX12_numberIn w a1) = v ∧ w = w1)) cv_BentWordsModel_333 rfl rfl (fs_X12_numberIn (d := d + 1) (a0 := a1) hc37 ⟨rfl, rfl⟩) rfl rfl (Nat.le_of_ble_eq_true rfl) dX12_whyItemNot_127 (fun v w1 hv => ?_)
                      obtain ⟨rfl, rfl⟩ := hv
                      refine bw_aload_n (i := 0) dX12_whyItemNot_130 rfl rfl ?_
                      refine bw_getr (r := 66) fg_BentWordsModel_56 rfl rfl dX12_whyItemNot_131 ?_
                      refine bw_aload_n (i := 0) dX12_whyItemNot_134 rfl rfl ?_
                      refine bw_iload_n (i := 2) dX12_whyItemNot_135 rfl rfl ?_
                      obtain ⟨hc38, h⟩ := h
                      refine bw_cVi (As := [.int a1]) (st := [.ref 66, .int (vX12_numberIn w a1), .int a2, .int 0, .ref 50]) (Q' := (fun v w1 => (vX12_nounIn w a1) = v ∧ w = w1)) cv_BentWordsModel_330 rfl rfl (fs_X12_nounIn (d := d + 2) (a0 := a1) hc38 ⟨rfl, rfl⟩) rfl rfl (Nat.le_of_ble_eq_true rfl) dX12_whyItemNot_136 (fun v w1 hv => ?_)
                      obtain ⟨rfl, rfl⟩ := hv
                      obtain ⟨hi39, h⟩ := h
                      refine bw_iaload rfl hi39 dX12_whyItemNot_139 ?_
                      obtain ⟨hc40, h⟩ := h
                      refine bw_cVb (As := [.int 0, .int a2, .int (vX12_numberIn w a1), .int (gw_i w 66 ((vX12_nounIn w a1).toNatClampNeg))]) (st := []) (Q' := (fun v w1 => (decide (¬ (gw_l w 67 ((vX12_wordAt false a2 (vX12_numberIn w a1) (gw_i w 66 ((vX12_nounIn w a1).toNatClampNeg))).toNatClampNeg)) = 0)) = v ∧ w = w1)) cv_BentWordsModel_336 rfl rfl (fs_X12_isWordTold (d := d + 0) (a0 := false) (a1 := a2) (a2 := (vX12_numberIn w a1)) (a3 := (gw_i w 66 ((vX12_nounIn w a1).toNatClampNeg))) hc40 ⟨rfl, rfl⟩) rfl rfl (Nat.le_of_ble_eq_true rfl) dX12_whyItemNot_140 (fun v w1 hv => ?_)
                      obtain ⟨rfl, rfl⟩ := hv
                      refine bw_ifb_ne (tgt := 148) dX12_whyItemNot_143 (by decide) (fun c => ?_) (fun c => ?_)
                      · replace h := h.1 (of_decide_eq_true c)
                        refine bw_iload_n (i := 1) dX12_whyItemNot_148 rfl rfl ?_
                        refine bw_iconst (v := 3) dX12_whyItemNot_149 (by decide) ?_
                        refine bw_icmp_eq (tgt := 175) dX12_whyItemNot_150 (by decide) (fun c => ?_) (fun c => ?_)
                        · replace h := h.1 (c)
                          refine bw_iconst (v := (-1)) dX12_whyItemNot_175 (by decide) ?_
                          exact bw_ireturn dX12_whyItemNot_176 rfl rfl ⟨_, rfl, h⟩
                        · replace h := h.2 (c)
                          refine bw_aload_n (i := 0) dX12_whyItemNot_153 rfl rfl ?_
                          refine bw_aload_n (i := 0) dX12_whyItemNot_154 rfl rfl ?_
                          refine bw_iload_n (i := 2) dX12_whyItemNot_155 rfl rfl ?_
                          obtain ⟨hc41, h⟩ := h
                          refine bw_cVi (As := [.int a1]) (st := [.ref 50]) (Q' := (fun v w1 => (vX12_nounIn w a1) = v ∧ w = w1)) cv_BentWordsModel_330 rfl rfl (fs_X12_nounIn (d := d + 2) (a0 := a1) hc41 ⟨rfl, rfl⟩) rfl rfl (Nat.le_of_ble_eq_true rfl) dX12_whyItemNot_156 (fun v w1 hv => ?_)
                          obtain ⟨rfl, rfl⟩ := hv
                          refine bw_iload_n (i := 3) dX12_whyItemNot_159 rfl rfl ?_
                          refine bw_aload_n (i := 0) dX12_whyItemNot_160 rfl rfl ?_
                          refine bw_iload_n (i := 2) dX12_whyItemNot_161 rfl rfl ?_
                          obtain ⟨hc42, h⟩ := h
                          refine bw_cVi (As := [.int a1]) (st := [.int a2, .int (vX12_nounIn w a1), .ref 50]) (Q' := (fun v w1 => (vX12_numberIn w a1) = v ∧ w = w1)) cv_BentWordsModel_333 rfl rfl (fs_X12_numberIn (d := d + 1) (a0 := a1) hc42 ⟨rfl, rfl⟩) rfl rfl (Nat.le_of_ble_eq_true rfl) dX12_whyItemNot_162 (fun v w1 hv => ?_)
                          obtain ⟨rfl, rfl⟩ := hv
                          obtain ⟨Q43, hr, h⟩ := h
                          refine bw_cVi (As := [.int (vX12_nounIn w a1), .int a2, .int (vX12_numberIn w a1)]) (st := []) cv_BentWordsModel_300 rfl rfl hr rfl rfl (Nat.le_of_ble_eq_true rfl) dX12_whyItemNot_165 (fun v44 w45 hv => ?_)
                          replace h := h v44 w45 hv
                          clear hr
                          refine bw_if_le (tgt := 175) dX12_whyItemNot_168 (by decide) (fun c => ?_) (fun c => ?_)
                          · replace h := h.1 (c)
                            refine bw_iconst (v := (-1)) dX12_whyItemNot_175 (by decide) ?_
                            exact bw_ireturn dX12_whyItemNot_176 rfl rfl ⟨_, rfl, h⟩
                          · replace h := h.2 (c)
                            refine bw_iconst (v := 1) dX12_whyItemNot_171 (by decide) ?_
                            refine bw_goto (tgt := 176) dX12_whyItemNot_172 (by decide) ?_
                            exact bw_ireturn dX12_whyItemNot_176 rfl rfl ⟨_, rfl, h⟩
                      · replace h := h.2 (of_decide_eq_false c)
                        refine bw_iconst (v := 4) dX12_whyItemNot_146 (by decide) ?_
                        exact bw_ireturn dX12_whyItemNot_147 rfl rfl ⟨_, rfl, h⟩
                    · replace h := h.2 (c)
                      refine bw_iconst (v := 1) dX12_whyItemNot_119 (by decide) ?_
                      refine bw_goto (tgt := 124) dX12_whyItemNot_120 (by decide) ?_
                      refine bw_iload_n (i := 3) dX12_whyItemNot_124 rfl rfl ?_
                      refine bw_aload_n (i := 0) dX12_whyItemNot_125 rfl rfl ?_
                      refine bw_iload_n (i := 2) dX12_whyItemNot_126 rfl rfl ?_
                      obtain ⟨hc46, h⟩ := h
                      refine bw_cVi (As := [.int a1]) (st := [.int a2, .int 1, .ref 50]) (Q' := (fun v w1 => (vX12_numberIn w a1) = v ∧ w = w1)) cv_BentWordsModel_333 rfl rfl (fs_X12_numberIn (d := d + 1) (a0 := a1) hc46 ⟨rfl, rfl⟩) rfl rfl (Nat.le_of_ble_eq_true rfl) dX12_whyItemNot_127 (fun v w1 hv => ?_)
                      obtain ⟨rfl, rfl⟩ := hv
                      refine bw_aload_n (i := 0) dX12_whyItemNot_130 rfl rfl ?_
                      refine bw_getr (r := 66) fg_BentWordsModel_56 rfl rfl dX12_whyItemNot_131 ?_
                      refine bw_aload_n (i := 0) dX12_whyItemNot_134 rfl rfl ?_
                      refine bw_iload_n (i := 2) dX12_whyItemNot_135 rfl rfl ?_
                      obtain ⟨hc47, h⟩ := h
                      refine bw_cVi (As := [.int a1]) (st := [.ref 66, .int (vX12_numberIn w a1), .int a2, .int 1, .ref 50]) (Q' := (fun v w1 => (vX12_nounIn w a1) = v ∧ w = w1)) cv_BentWordsModel_330 rfl rfl (fs_X12_nounIn (d := d + 2) (a0 := a1) hc47 ⟨rfl, rfl⟩) rfl rfl (Nat.le_of_ble_eq_true rfl) dX12_whyItemNot_136 (fun v w1 hv => ?_)
                      obtain ⟨rfl, rfl⟩ := hv
                      obtain ⟨hi48, h⟩ := h
                      refine bw_iaload rfl hi48 dX12_whyItemNot_139 ?_
                      obtain ⟨hc49, h⟩ := h
                      refine bw_cVb (As := [.int 1, .int a2, .int (vX12_numberIn w a1), .int (gw_i w 66 ((vX12_nounIn w a1).toNatClampNeg))]) (st := []) (Q' := (fun v w1 => (decide (¬ (gw_l w 67 ((vX12_wordAt true a2 (vX12_numberIn w a1) (gw_i w 66 ((vX12_nounIn w a1).toNatClampNeg))).toNatClampNeg)) = 0)) = v ∧ w = w1)) cv_BentWordsModel_336 rfl rfl (fs_X12_isWordTold (d := d + 0) (a0 := true) (a1 := a2) (a2 := (vX12_numberIn w a1)) (a3 := (gw_i w 66 ((vX12_nounIn w a1).toNatClampNeg))) hc49 ⟨rfl, rfl⟩) rfl rfl (Nat.le_of_ble_eq_true rfl) dX12_whyItemNot_140 (fun v w1 hv => ?_)
                      obtain ⟨rfl, rfl⟩ := hv
                      refine bw_ifb_ne (tgt := 148) dX12_whyItemNot_143 (by decide) (fun c => ?_) (fun c => ?_)
                      · replace h := h.1 (of_decide_eq_true c)
                        refine bw_iload_n (i := 1) dX12_whyItemNot_148 rfl rfl ?_
                        refine bw_iconst (v := 3) dX12_whyItemNot_149 (by decide) ?_
                        refine bw_icmp_eq (tgt := 175) dX12_whyItemNot_150 (by decide) (fun c => ?_) (fun c => ?_)
                        · replace h := h.1 (c)
                          refine bw_iconst (v := (-1)) dX12_whyItemNot_175 (by decide) ?_
                          exact bw_ireturn dX12_whyItemNot_176 rfl rfl ⟨_, rfl, h⟩
                        · replace h := h.2 (c)
                          refine bw_aload_n (i := 0) dX12_whyItemNot_153 rfl rfl ?_
                          refine bw_aload_n (i := 0) dX12_whyItemNot_154 rfl rfl ?_
                          refine bw_iload_n (i := 2) dX12_whyItemNot_155 rfl rfl ?_
                          obtain ⟨hc50, h⟩ := h
                          refine bw_cVi (As := [.int a1]) (st := [.ref 50]) (Q' := (fun v w1 => (vX12_nounIn w a1) = v ∧ w = w1)) cv_BentWordsModel_330 rfl rfl (fs_X12_nounIn (d := d + 2) (a0 := a1) hc50 ⟨rfl, rfl⟩) rfl rfl (Nat.le_of_ble_eq_true rfl) dX12_whyItemNot_156 (fun v w1 hv => ?_)
                          obtain ⟨rfl, rfl⟩ := hv
                          refine bw_iload_n (i := 3) dX12_whyItemNot_159 rfl rfl ?_
                          refine bw_aload_n (i := 0) dX12_whyItemNot_160 rfl rfl ?_
                          refine bw_iload_n (i := 2) dX12_whyItemNot_161 rfl rfl ?_
                          obtain ⟨hc51, h⟩ := h
                          refine bw_cVi (As := [.int a1]) (st := [.int a2, .int (vX12_nounIn w a1), .ref 50]) (Q' := (fun v w1 => (vX12_numberIn w a1) = v ∧ w = w1)) cv_BentWordsModel_333 rfl rfl (fs_X12_numberIn (d := d + 1) (a0 := a1) hc51 ⟨rfl, rfl⟩) rfl rfl (Nat.le_of_ble_eq_true rfl) dX12_whyItemNot_162 (fun v w1 hv => ?_)
                          obtain ⟨rfl, rfl⟩ := hv
                          obtain ⟨Q52, hr, h⟩ := h
                          refine bw_cVi (As := [.int (vX12_nounIn w a1), .int a2, .int (vX12_numberIn w a1)]) (st := []) cv_BentWordsModel_300 rfl rfl hr rfl rfl (Nat.le_of_ble_eq_true rfl) dX12_whyItemNot_165 (fun v53 w54 hv => ?_)
                          replace h := h v53 w54 hv
                          clear hr
                          refine bw_if_le (tgt := 175) dX12_whyItemNot_168 (by decide) (fun c => ?_) (fun c => ?_)
                          · replace h := h.1 (c)
                            refine bw_iconst (v := (-1)) dX12_whyItemNot_175 (by decide) ?_
                            exact bw_ireturn dX12_whyItemNot_176 rfl rfl ⟨_, rfl, h⟩
                          · replace h := h.2 (c)
                            refine bw_iconst (v := 1) dX12_whyItemNot_171 (by decide) ?_
                            refine bw_goto (tgt := 176) dX12_whyItemNot_172 (by decide) ?_
                            exact bw_ireturn dX12_whyItemNot_176 rfl rfl ⟨_, rfl, h⟩
                      · replace h := h.2 (of_decide_eq_false c)
                        refine bw_iconst (v := 4) dX12_whyItemNot_146 (by decide) ?_
                        exact bw_ireturn dX12_whyItemNot_147 rfl rfl ⟨_, rfl, h⟩
                · replace h := h.2 (c)
                  refine bw_iconst (v := (-1)) dX12_whyItemNot_106 (by decide) ?_
                  exact bw_ireturn dX12_whyItemNot_107 rfl rfl ⟨_, rfl, h⟩
            · replace h := h.2 (c)
              refine bw_aload_n (i := 0) dX12_whyItemNot_61 rfl rfl ?_
              refine bw_getr (r := 66) fg_BentWordsModel_56 rfl rfl dX12_whyItemNot_62 ?_
              refine bw_aload_n (i := 0) dX12_whyItemNot_65 rfl rfl ?_
              refine bw_iload_n (i := 2) dX12_whyItemNot_66 rfl rfl ?_
              obtain ⟨hc55, h⟩ := h
              refine bw_cVi (As := [.int a1]) (st := [.ref 66]) (Q' := (fun v w1 => (vX12_nounIn w a1) = v ∧ w = w1)) cv_BentWordsModel_330 rfl rfl (fs_X12_nounIn (d := d + 2) (a0 := a1) hc55 ⟨rfl, rfl⟩) rfl rfl (Nat.le_of_ble_eq_true rfl) dX12_whyItemNot_67 (fun v w1 hv => ?_)
              obtain ⟨rfl, rfl⟩ := hv
              obtain ⟨hi56, h⟩ := h
              refine bw_iaload rfl hi56 dX12_whyItemNot_70 ?_
              refine bw_aload_n (i := 0) dX12_whyItemNot_71 rfl rfl ?_
              refine bw_getr (r := 66) fg_BentWordsModel_56 rfl rfl dX12_whyItemNot_72 ?_
              refine bw_aload_n (i := 0) dX12_whyItemNot_75 rfl rfl ?_
              refine bw_iload_n (i := 3) dX12_whyItemNot_76 rfl rfl ?_
              obtain ⟨hc57, h⟩ := h
              refine bw_cVi (As := [.int a2]) (st := [.ref 66, .int (gw_i w 66 ((vX12_nounIn w a1).toNatClampNeg))]) (Q' := (fun v w1 => (vX12_nounIn w a2) = v ∧ w = w1)) cv_BentWordsModel_330 rfl rfl (fs_X12_nounIn (d := d + 2) (a0 := a2) hc57 ⟨rfl, rfl⟩) rfl rfl (Nat.le_of_ble_eq_true rfl) dX12_whyItemNot_77 (fun v w1 hv => ?_)
              obtain ⟨rfl, rfl⟩ := hv
              obtain ⟨hi58, h⟩ := h
              refine bw_iaload rfl hi58 dX12_whyItemNot_80 ?_
              refine bw_icmp_ne (tgt := 88) dX12_whyItemNot_81 (by decide) (fun c => ?_) (fun c => ?_)
              · replace h := h.1 (c)
                refine bw_iconst (v := 3) dX12_whyItemNot_88 (by decide) ?_
                exact bw_ireturn dX12_whyItemNot_89 rfl rfl ⟨_, rfl, h⟩
              · replace h := h.2 (c)
                refine bw_iconst (v := (-1)) dX12_whyItemNot_84 (by decide) ?_
                refine bw_goto (tgt := 89) dX12_whyItemNot_85 (by decide) ?_
                exact bw_ireturn dX12_whyItemNot_89 rfl rfl ⟨_, rfl, h⟩
          · replace h := h.2 (c)
            refine bw_aload_n (i := 0) dX12_whyItemNot_36 rfl rfl ?_
            refine bw_iload_n (i := 2) dX12_whyItemNot_37 rfl rfl ?_
            obtain ⟨hc59, h⟩ := h
            refine bw_cVi (As := [.int a1]) (st := []) (Q' := (fun v w1 => (vX12_numberIn w a1) = v ∧ w = w1)) cv_BentWordsModel_333 rfl rfl (fs_X12_numberIn (d := d + 1) (a0 := a1) hc59 ⟨rfl, rfl⟩) rfl rfl (Nat.le_of_ble_eq_true rfl) dX12_whyItemNot_38 (fun v w1 hv => ?_)
            obtain ⟨rfl, rfl⟩ := hv
            refine bw_aload_n (i := 0) dX12_whyItemNot_41 rfl rfl ?_
            refine bw_iload_n (i := 3) dX12_whyItemNot_42 rfl rfl ?_
            obtain ⟨hc60, h⟩ := h
            refine bw_cVi (As := [.int a2]) (st := [.int (vX12_numberIn w a1)]) (Q' := (fun v w1 => (vX12_numberIn w a2) = v ∧ w = w1)) cv_BentWordsModel_333 rfl rfl (fs_X12_numberIn (d := d + 1) (a0 := a2) hc60 ⟨rfl, rfl⟩) rfl rfl (Nat.le_of_ble_eq_true rfl) dX12_whyItemNot_43 (fun v w1 hv => ?_)
            obtain ⟨rfl, rfl⟩ := hv
            refine bw_icmp_ne (tgt := 53) dX12_whyItemNot_46 (by decide) (fun c => ?_) (fun c => ?_)
            · replace h := h.1 (c)
              refine bw_iconst (v := 2) dX12_whyItemNot_53 (by decide) ?_
              exact bw_ireturn dX12_whyItemNot_54 rfl rfl ⟨_, rfl, h⟩
            · replace h := h.2 (c)
              refine bw_iconst (v := (-1)) dX12_whyItemNot_49 (by decide) ?_
              refine bw_goto (tgt := 54) dX12_whyItemNot_50 (by decide) ?_
              exact bw_ireturn dX12_whyItemNot_54 rfl rfl ⟨_, rfl, h⟩
        · replace h := h.2 (c)
          refine bw_iconst (v := 0) dX12_whyItemNot_29 (by decide) ?_
          exact bw_ireturn dX12_whyItemNot_30 rfl rfl ⟨_, rfl, h⟩
  · replace h := h.2 (c)
    refine bw_iconst (v := (-1)) dX12_whyItemNot_4 (by decide) ?_
    exact bw_ireturn dX12_whyItemNot_5 rfl rfl ⟨_, rfl, h⟩
theorem wfX12_whyNot {E : bw_E} {d : Nat} {w : bw_W} {Q : Int32 → bw_W → Prop} {a0 : Int32} {a1 : Int32} {a2 : Int32} {a3 : Int32} {a4 : Int64}  (h : ((a0 = 0 → ((((¬ ((gw_i w 50 34) ≤ 0)) ∧ ((¬ (a1 < 0)) ∧ (¬ (2 < a1)))) → ((¬ (a2 < 0)) ∧ (¬ (((gw_i w 50 34) - 1) < a2))) → ((¬ (a3 < 0)) ∧ (¬ (99 < a3))) → (((vp_in (1 + (2 * a1)) 236))))) ∧
((((¬ ((gw_i w 50 34) ≤ 0)) ∧ ((¬ (a1 < 0)) ∧ (¬ (2 < a1)))) → ((¬ (a2 < 0)) ∧ (¬ (((gw_i w 50 34) - 1) < a2))) → ((¬ (a3 < 0)) ∧ (¬ (99 < a3))) → ((vX12_nounIn w a1) = a2) → (((vp_in ((1 + (2 * a1)) + 1) 236))))) ∧
Q (vX12_whyFill w a1 a2 a3) w) ∧ (a0 = 1 → (((¬ ((gw_i w 50 34) ≤ 0)) ∧ ((¬ (a1 < 0)) ∧ (¬ (2 < a1))) → (((vp_in (1 + (2 * a1)) 236))) ∧
((¬ (vX12_nounIn w a1) = (-1) → Q (-1) w) ∧ ((vX12_nounIn w a1) = (-1) → Q 2 w))) ∧ (¬ ((¬ ((gw_i w 50 34) ≤ 0)) ∧ ((¬ (a1 < 0)) ∧ (¬ (2 < a1)))) → Q 0 w))) ∧ (a0 = 2 → (((¬ ((gw_i w 50 34) ≤ 0)) → (((¬ (a1 < 0)) ∧ (¬ (1 < a1)) → ((¬ (gw_l w 63 0) = (a1.toInt64) → Q (-1) w) ∧ ((gw_l w 63 0) = (a1.toInt64) → Q 2 w))) ∧ (¬ ((¬ (a1 < 0)) ∧ (¬ (1 < a1))) → Q 1 w))) ∧ (¬ (¬ ((gw_i w 50 34) ≤ 0)) → Q 0 w))) ∧ (a0 = 3 → (((¬ (a1 < 0)) ∧ (¬ (((gw_i w 50 34) - 1) < a1)) → ((¬ (((¬ (a2 < 0)) ∧ (¬ (3 < a2))) ∧ ((¬ (a3 < 0)) ∧ (¬ (1 < a3)))) → Q 1 w) ∧ (((¬ (a2 < 0)) ∧ (¬ (3 < a2))) ∧ ((¬ (a3 < 0)) ∧ (¬ (1 < a3))) → ((¬ a4 = 0 → (((vp_in ((7 + (8 * a1)) + ((2 * a2) + a3)) 236))) ∧
((¬ (vX12_told w a1 a2 a3) = a4 → Q (-1) w) ∧ ((vX12_told w a1 a2 a3) = a4 → Q 2 w))) ∧ (a4 = 0 → Q 1 w))))) ∧ (¬ ((¬ (a1 < 0)) ∧ (¬ (((gw_i w 50 34) - 1) < a1))) → Q 0 w))) ∧ (a0.toInt < 0 ∨ 3 < a0.toInt → (((¬ (a1 < 0)) ∧ (¬ (((gw_i w 50 34) - 1) < a1)) → ((((¬ (a2 < 0)) ∧ (¬ (3 < a2))) ∧ ((¬ (a3 < 0)) ∧ (¬ (1 < a3))) → (((vp_in ((7 + (8 * a1)) + ((2 * a2) + a3)) 236))) ∧
((¬ (vX12_told w a1 a2 a3) = 0 → Q (-1) w) ∧ ((vX12_told w a1 a2 a3) = 0 → Q 2 w))) ∧ (¬ (((¬ (a2 < 0)) ∧ (¬ (3 < a2))) ∧ ((¬ (a3 < 0)) ∧ (¬ (1 < a3)))) → Q 1 w))) ∧ (¬ ((¬ (a1 < 0)) ∧ (¬ (((gw_i w 50 34) - 1) < a1))) → Q 0 w))))) : bw_ri E (d + 3) mX12_whyNot [.ref 50, .int a0, .int a1, .int a2, .int a3, .long a4] w Q := by
  refine bw_enter rfl (Nat.le_of_ble_eq_true rfl) ?_
  refine bw_iload_n (i := 1) dX12_whyNot_0 rfl rfl ?_
  refine bw_tabsw dX12_whyNot_1 [32, 41, 68, 110] 162 (by decide) rfl rfl (fun j hj hx => ?_) (fun hx => ?_)
  · match j, hj, hx with
    | 0, _, hx =>
      replace h := h.1 (bw_ti hx (by decide))
      refine bw_aload_n (i := 0) dX12_whyNot_32 rfl rfl ?_
      refine bw_iload_n (i := 2) dX12_whyNot_33 rfl rfl ?_
      refine bw_iload_n (i := 3) dX12_whyNot_34 rfl rfl ?_
      refine bw_iload dX12_whyNot_35 rfl ?_
      obtain ⟨hc1, h⟩ := h
      obtain ⟨hc2, h⟩ := h
      refine bw_cVi (As := [.int a1, .int a2, .int a3]) (st := []) (Q' := (fun v w1 => (vX12_whyFill w a1 a2 a3) = v ∧ w = w1)) cv_BentWordsModel_379 rfl rfl (fs_X12_whyFill (d := d + 0) (a0 := a1) (a1 := a2) (a2 := a3) hc1 hc2 ⟨rfl, rfl⟩) rfl rfl (Nat.le_of_ble_eq_true rfl) dX12_whyNot_37 (fun v w1 hv => ?_)
      obtain ⟨rfl, rfl⟩ := hv
      exact bw_ireturn dX12_whyNot_40 rfl rfl ⟨_, rfl, h⟩
    | 1, _, hx =>
      replace h := h.2.1 (bw_ti hx (by decide))
      refine bw_aload_n (i := 0) dX12_whyNot_41 rfl rfl ?_
      refine bw_iload_n (i := 2) dX12_whyNot_42 rfl rfl ?_
      refine bw_cVb (As := [.int a1]) (st := []) (Q' := (fun v w1 => (decide ((¬ ((gw_i w 50 34) ≤ 0)) ∧ ((¬ (a1 < 0)) ∧ (¬ (2 < a1))))) = v ∧ w = w1)) cv_BentWordsModel_373 rfl rfl (fs_X12_isHole (d := d + 1) (a0 := a1)  ⟨rfl, rfl⟩) rfl rfl (Nat.le_of_ble_eq_true rfl) dX12_whyNot_43 (fun v w1 hv => ?_)
      obtain ⟨rfl, rfl⟩ := hv
      refine bw_ifb_ne (tgt := 53) dX12_whyNot_46 (by decide) (fun c => ?_) (fun c => ?_)
      · replace h := h.1 (of_decide_eq_true c)
        refine bw_aload_n (i := 0) dX12_whyNot_53 rfl rfl ?_
        refine bw_iload_n (i := 2) dX12_whyNot_54 rfl rfl ?_
        obtain ⟨hc3, h⟩ := h
        refine bw_cVi (As := [.int a1]) (st := []) (Q' := (fun v w1 => (vX12_nounIn w a1) = v ∧ w = w1)) cv_BentWordsModel_330 rfl rfl (fs_X12_nounIn (d := d + 2) (a0 := a1) hc3 ⟨rfl, rfl⟩) rfl rfl (Nat.le_of_ble_eq_true rfl) dX12_whyNot_55 (fun v w1 hv => ?_)
        obtain ⟨rfl, rfl⟩ := hv
        refine bw_iconst (v := (-1)) dX12_whyNot_58 (by decide) ?_
        refine bw_icmp_ne (tgt := 66) dX12_whyNot_59 (by decide) (fun c => ?_) (fun c => ?_)
        · replace h := h.1 (c)
          refine bw_iconst (v := (-1)) dX12_whyNot_66 (by decide) ?_
          exact bw_ireturn dX12_whyNot_67 rfl rfl ⟨_, rfl, h⟩
        · replace h := h.2 (c)
          refine bw_iconst (v := 2) dX12_whyNot_62 (by decide) ?_
          refine bw_goto (tgt := 67) dX12_whyNot_63 (by decide) ?_
          exact bw_ireturn dX12_whyNot_67 rfl rfl ⟨_, rfl, h⟩
      · replace h := h.2 (of_decide_eq_false c)
        refine bw_iconst (v := 0) dX12_whyNot_49 (by decide) ?_
        refine bw_goto (tgt := 67) dX12_whyNot_50 (by decide) ?_
        exact bw_ireturn dX12_whyNot_67 rfl rfl ⟨_, rfl, h⟩
    | 2, _, hx =>
      replace h := h.2.2.1 (bw_ti hx (by decide))
      refine bw_aload_n (i := 0) dX12_whyNot_68 rfl rfl ?_
      refine bw_cVb (As := []) (st := []) (Q' := (fun v w1 => (decide (¬ ((gw_i w 50 34) ≤ 0))) = v ∧ w = w1)) cv_BentWordsModel_272 rfl rfl (fs_X12_isLexicon (d := d + 2)   ⟨rfl, rfl⟩) rfl rfl (Nat.le_of_ble_eq_true rfl) dX12_whyNot_69 (fun v w1 hv => ?_)
      obtain ⟨rfl, rfl⟩ := hv
      refine bw_ifb_ne (tgt := 79) dX12_whyNot_72 (by decide) (fun c => ?_) (fun c => ?_)
      · replace h := h.1 (of_decide_eq_true c)
        refine bw_iload_n (i := 2) dX12_whyNot_79 rfl rfl ?_
        refine bw_iconst (v := 0) dX12_whyNot_80 (by decide) ?_
        refine bw_iconst (v := 1) dX12_whyNot_81 (by decide) ?_
        refine bw_cSb (As := [.int a1, .int 0, .int 1]) (st := []) (Q' := (fun v w1 => (decide ((¬ (a1 < 0)) ∧ (¬ (1 < a1)))) = v ∧ w = w1)) cs_BentWordsModel_100 (fs_X12_in (d := d + 2) (a0 := a1) (a1 := 0) (a2 := 1)  ⟨rfl, rfl⟩) rfl rfl (Nat.le_of_ble_eq_true rfl) dX12_whyNot_82 (fun v w1 hv => ?_)
        obtain ⟨rfl, rfl⟩ := hv
        refine bw_ifb_ne (tgt := 92) dX12_whyNot_85 (by decide) (fun c => ?_) (fun c => ?_)
        · replace h := h.1 (of_decide_eq_true c)
          refine bw_aload_n (i := 0) dX12_whyNot_92 rfl rfl ?_
          refine bw_getr (r := 63) fg_BentWordsModel_47 rfl rfl dX12_whyNot_93 ?_
          refine bw_iconst (v := 0) dX12_whyNot_96 (by decide) ?_
          refine bw_laload rfl (by unfold vp_in; decide) dX12_whyNot_97 ?_
          rw [show gw_l w 63 (Int32.toNatClampNeg 0) = (gw_l w 63 0) from rfl]
          refine bw_iload_n (i := 2) dX12_whyNot_98 rfl rfl ?_
          refine bw_i2l dX12_whyNot_99 ?_
          refine bw_lcmp_ne (tgt := 108) dX12_whyNot_100 dX12_whyNot_101 (by decide) (fun c => ?_) (fun c => ?_)
          · replace h := h.1 (c)
            refine bw_iconst (v := (-1)) dX12_whyNot_108 (by decide) ?_
            exact bw_ireturn dX12_whyNot_109 rfl rfl ⟨_, rfl, h⟩
          · replace h := h.2 (c)
            refine bw_iconst (v := 2) dX12_whyNot_104 (by decide) ?_
            refine bw_goto (tgt := 109) dX12_whyNot_105 (by decide) ?_
            exact bw_ireturn dX12_whyNot_109 rfl rfl ⟨_, rfl, h⟩
        · replace h := h.2 (of_decide_eq_false c)
          refine bw_iconst (v := 1) dX12_whyNot_88 (by decide) ?_
          refine bw_goto (tgt := 109) dX12_whyNot_89 (by decide) ?_
          exact bw_ireturn dX12_whyNot_109 rfl rfl ⟨_, rfl, h⟩
      · replace h := h.2 (of_decide_eq_false c)
        refine bw_iconst (v := 0) dX12_whyNot_75 (by decide) ?_
        refine bw_goto (tgt := 109) dX12_whyNot_76 (by decide) ?_
        exact bw_ireturn dX12_whyNot_109 rfl rfl ⟨_, rfl, h⟩
    | 3, _, hx =>
      replace h := h.2.2.2.1 (bw_ti hx (by decide))
      refine bw_aload_n (i := 0) dX12_whyNot_110 rfl rfl ?_
      refine bw_iload_n (i := 2) dX12_whyNot_111 rfl rfl ?_
      refine bw_cVb (As := [.int a1]) (st := []) (Q' := (fun v w1 => (decide ((¬ (a1 < 0)) ∧ (¬ (((gw_i w 50 34) - 1) < a1)))) = v ∧ w = w1)) cv_BentWordsModel_376 rfl rfl (fs_X12_isNoun (d := d + 1) (a0 := a1)  ⟨rfl, rfl⟩) rfl rfl (Nat.le_of_ble_eq_true rfl) dX12_whyNot_112 (fun v w1 hv => ?_)
      obtain ⟨rfl, rfl⟩ := hv
      refine bw_ifb_ne (tgt := 122) dX12_whyNot_115 (by decide) (fun c => ?_) (fun c => ?_)
      · replace h := h.1 (of_decide_eq_true c)
        refine bw_iload_n (i := 3) dX12_whyNot_122 rfl rfl ?_
        refine bw_iload dX12_whyNot_123 rfl ?_
        refine bw_cSb (As := [.int a2, .int a3]) (st := []) (Q' := (fun v w1 => (decide (((¬ (a2 < 0)) ∧ (¬ (3 < a2))) ∧ ((¬ (a3 < 0)) ∧ (¬ (1 < a3))))) = v ∧ w = w1)) cs_BentWordsModel_382 (fs_X12_isForm (d := d + 1) (a0 := a2) (a1 := a3)  ⟨rfl, rfl⟩) rfl rfl (Nat.le_of_ble_eq_true rfl) dX12_whyNot_125 (fun v w1 hv => ?_)
        obtain ⟨rfl, rfl⟩ := hv
        refine bw_ifb_eq (tgt := 138) dX12_whyNot_128 (by decide) (fun c => ?_) (fun c => ?_)
        · replace h := h.1 (of_decide_eq_false c)
          refine bw_iconst (v := 1) dX12_whyNot_138 (by decide) ?_
          refine bw_goto (tgt := 161) dX12_whyNot_139 (by decide) ?_
          exact bw_ireturn dX12_whyNot_161 rfl rfl ⟨_, rfl, h⟩
        · replace h := h.2 (of_decide_eq_true c)
          refine bw_lload dX12_whyNot_131 rfl ?_
          refine bw_lconst (v := 0) dX12_whyNot_133 rfl ?_
          refine bw_lcmp_ne (tgt := 142) dX12_whyNot_134 dX12_whyNot_135 (by decide) (fun c => ?_) (fun c => ?_)
          · replace h := h.1 (c)
            refine bw_aload_n (i := 0) dX12_whyNot_142 rfl rfl ?_
            refine bw_iload_n (i := 2) dX12_whyNot_143 rfl rfl ?_
            refine bw_iload_n (i := 3) dX12_whyNot_144 rfl rfl ?_
            refine bw_iload dX12_whyNot_145 rfl ?_
            obtain ⟨hc4, h⟩ := h
            refine bw_cVl (As := [.int a1, .int a2, .int a3]) (st := []) (Q' := (fun v w1 => (vX12_told w a1 a2 a3) = v ∧ w = w1)) cv_BentWordsModel_296 rfl rfl (fs_X12_told (d := d + 1) (a0 := a1) (a1 := a2) (a2 := a3) hc4 ⟨rfl, rfl⟩) rfl rfl (Nat.le_of_ble_eq_true rfl) dX12_whyNot_147 (fun v w1 hv => ?_)
            obtain ⟨rfl, rfl⟩ := hv
            refine bw_lload dX12_whyNot_150 rfl ?_
            refine bw_lcmp_ne (tgt := 160) dX12_whyNot_152 dX12_whyNot_153 (by decide) (fun c => ?_) (fun c => ?_)
            · replace h := h.1 (c)
              refine bw_iconst (v := (-1)) dX12_whyNot_160 (by decide) ?_
              exact bw_ireturn dX12_whyNot_161 rfl rfl ⟨_, rfl, h⟩
            · replace h := h.2 (c)
              refine bw_iconst (v := 2) dX12_whyNot_156 (by decide) ?_
              refine bw_goto (tgt := 161) dX12_whyNot_157 (by decide) ?_
              exact bw_ireturn dX12_whyNot_161 rfl rfl ⟨_, rfl, h⟩
          · replace h := h.2 (c)
            refine bw_iconst (v := 1) dX12_whyNot_138 (by decide) ?_
            refine bw_goto (tgt := 161) dX12_whyNot_139 (by decide) ?_
            exact bw_ireturn dX12_whyNot_161 rfl rfl ⟨_, rfl, h⟩
      · replace h := h.2 (of_decide_eq_false c)
        refine bw_iconst (v := 0) dX12_whyNot_118 (by decide) ?_
        refine bw_goto (tgt := 161) dX12_whyNot_119 (by decide) ?_
        exact bw_ireturn dX12_whyNot_161 rfl rfl ⟨_, rfl, h⟩
    | j + 4, hj, _ => exact absurd hj (by simp)
  · replace h := h.2.2.2.2 hx
    refine bw_aload_n (i := 0) dX12_whyNot_162 rfl rfl ?_
    refine bw_iload_n (i := 2) dX12_whyNot_163 rfl rfl ?_
    refine bw_cVb (As := [.int a1]) (st := []) (Q' := (fun v w1 => (decide ((¬ (a1 < 0)) ∧ (¬ (((gw_i w 50 34) - 1) < a1)))) = v ∧ w = w1)) cv_BentWordsModel_376 rfl rfl (fs_X12_isNoun (d := d + 1) (a0 := a1)  ⟨rfl, rfl⟩) rfl rfl (Nat.le_of_ble_eq_true rfl) dX12_whyNot_164 (fun v w1 hv => ?_)
    obtain ⟨rfl, rfl⟩ := hv
    refine bw_ifb_ne (tgt := 174) dX12_whyNot_167 (by decide) (fun c => ?_) (fun c => ?_)
    · replace h := h.1 (of_decide_eq_true c)
      refine bw_iload_n (i := 3) dX12_whyNot_174 rfl rfl ?_
      refine bw_iload dX12_whyNot_175 rfl ?_
      refine bw_cSb (As := [.int a2, .int a3]) (st := []) (Q' := (fun v w1 => (decide (((¬ (a2 < 0)) ∧ (¬ (3 < a2))) ∧ ((¬ (a3 < 0)) ∧ (¬ (1 < a3))))) = v ∧ w = w1)) cs_BentWordsModel_382 (fs_X12_isForm (d := d + 1) (a0 := a2) (a1 := a3)  ⟨rfl, rfl⟩) rfl rfl (Nat.le_of_ble_eq_true rfl) dX12_whyNot_177 (fun v w1 hv => ?_)
      obtain ⟨rfl, rfl⟩ := hv
      refine bw_ifb_ne (tgt := 187) dX12_whyNot_180 (by decide) (fun c => ?_) (fun c => ?_)
      · replace h := h.1 (of_decide_eq_true c)
        refine bw_aload_n (i := 0) dX12_whyNot_187 rfl rfl ?_
        refine bw_iload_n (i := 2) dX12_whyNot_188 rfl rfl ?_
        refine bw_iload_n (i := 3) dX12_whyNot_189 rfl rfl ?_
        refine bw_iload dX12_whyNot_190 rfl ?_
        obtain ⟨hc5, h⟩ := h
        refine bw_cVl (As := [.int a1, .int a2, .int a3]) (st := []) (Q' := (fun v w1 => (vX12_told w a1 a2 a3) = v ∧ w = w1)) cv_BentWordsModel_296 rfl rfl (fs_X12_told (d := d + 1) (a0 := a1) (a1 := a2) (a2 := a3) hc5 ⟨rfl, rfl⟩) rfl rfl (Nat.le_of_ble_eq_true rfl) dX12_whyNot_192 (fun v w1 hv => ?_)
        obtain ⟨rfl, rfl⟩ := hv
        refine bw_lconst (v := 0) dX12_whyNot_195 rfl ?_
        refine bw_lcmp_ne (tgt := 204) dX12_whyNot_196 dX12_whyNot_197 (by decide) (fun c => ?_) (fun c => ?_)
        · replace h := h.1 (c)
          refine bw_iconst (v := (-1)) dX12_whyNot_204 (by decide) ?_
          exact bw_ireturn dX12_whyNot_205 rfl rfl ⟨_, rfl, h⟩
        · replace h := h.2 (c)
          refine bw_iconst (v := 2) dX12_whyNot_200 (by decide) ?_
          refine bw_goto (tgt := 205) dX12_whyNot_201 (by decide) ?_
          exact bw_ireturn dX12_whyNot_205 rfl rfl ⟨_, rfl, h⟩
      · replace h := h.2 (of_decide_eq_false c)
        refine bw_iconst (v := 1) dX12_whyNot_183 (by decide) ?_
        refine bw_goto (tgt := 205) dX12_whyNot_184 (by decide) ?_
        exact bw_ireturn dX12_whyNot_205 rfl rfl ⟨_, rfl, h⟩
    · replace h := h.2 (of_decide_eq_false c)
      refine bw_iconst (v := 0) dX12_whyNot_170 (by decide) ?_
      refine bw_goto (tgt := 205) dX12_whyNot_171 (by decide) ?_
      exact bw_ireturn dX12_whyNot_205 rfl rfl ⟨_, rfl, h⟩
theorem wfX12_byDefault {E : bw_E} {d : Nat} {w : bw_W} {Q : Int32 → bw_W → Prop} {a0 : Int32} {a1 : Int32} {a2 : Int32}  (h : ((¬ ((¬ (a0 < 0)) ∧ (¬ (((gw_i w 50 34) - 1) < a0))) → Q (-1) w) ∧ ((¬ (a0 < 0)) ∧ (¬ (((gw_i w 50 34) - 1) < a0)) → ((¬ (((¬ (a1 < 0)) ∧ (¬ (3 < a1))) ∧ ((¬ (a2 < 0)) ∧ (¬ (1 < a2)))) → Q (-1) w) ∧ (((¬ (a1 < 0)) ∧ (¬ (3 < a1))) ∧ ((¬ (a2 < 0)) ∧ (¬ (1 < a2))) → (∃ Q1 : Int32 → bw_W → Prop, bw_ri E (d + 2) mX12_defaultOf [.ref 50, .int a0, .int a1, .int a2] w Q1 ∧ ∀ v2 w3, Q1 v2 w3 →
Q v2 w3)))))) : bw_ri E (d + 3) mX12_byDefault [.ref 50, .int a0, .int a1, .int a2] w Q := by
  refine bw_enter rfl (Nat.le_of_ble_eq_true rfl) ?_
  refine bw_aload_n (i := 0) dX12_byDefault_0 rfl rfl ?_
  refine bw_iload_n (i := 1) dX12_byDefault_1 rfl rfl ?_
  refine bw_cVb (As := [.int a0]) (st := []) (Q' := (fun v w1 => (decide ((¬ (a0 < 0)) ∧ (¬ (((gw_i w 50 34) - 1) < a0)))) = v ∧ w = w1)) cv_BentWordsModel_376 rfl rfl (fs_X12_isNoun (d := d + 1) (a0 := a0)  ⟨rfl, rfl⟩) rfl rfl (Nat.le_of_ble_eq_true rfl) dX12_byDefault_2 (fun v w1 hv => ?_)
  obtain ⟨rfl, rfl⟩ := hv
  refine bw_ifb_eq (tgt := 26) dX12_byDefault_5 (by decide) (fun c => ?_) (fun c => ?_)
  · replace h := h.1 (of_decide_eq_false c)
    refine bw_iconst (v := (-1)) dX12_byDefault_26 (by decide) ?_
    exact bw_ireturn dX12_byDefault_27 rfl rfl ⟨_, rfl, h⟩
  · replace h := h.2 (of_decide_eq_true c)
    refine bw_iload_n (i := 2) dX12_byDefault_8 rfl rfl ?_
    refine bw_iload_n (i := 3) dX12_byDefault_9 rfl rfl ?_
    refine bw_cSb (As := [.int a1, .int a2]) (st := []) (Q' := (fun v w1 => (decide (((¬ (a1 < 0)) ∧ (¬ (3 < a1))) ∧ ((¬ (a2 < 0)) ∧ (¬ (1 < a2))))) = v ∧ w = w1)) cs_BentWordsModel_382 (fs_X12_isForm (d := d + 1) (a0 := a1) (a1 := a2)  ⟨rfl, rfl⟩) rfl rfl (Nat.le_of_ble_eq_true rfl) dX12_byDefault_10 (fun v w1 hv => ?_)
    obtain ⟨rfl, rfl⟩ := hv
    refine bw_ifb_eq (tgt := 26) dX12_byDefault_13 (by decide) (fun c => ?_) (fun c => ?_)
    · replace h := h.1 (of_decide_eq_false c)
      refine bw_iconst (v := (-1)) dX12_byDefault_26 (by decide) ?_
      exact bw_ireturn dX12_byDefault_27 rfl rfl ⟨_, rfl, h⟩
    · replace h := h.2 (of_decide_eq_true c)
      refine bw_aload_n (i := 0) dX12_byDefault_16 rfl rfl ?_
      refine bw_iload_n (i := 1) dX12_byDefault_17 rfl rfl ?_
      refine bw_iload_n (i := 2) dX12_byDefault_18 rfl rfl ?_
      refine bw_iload_n (i := 3) dX12_byDefault_19 rfl rfl ?_
      obtain ⟨Q1, hr, h⟩ := h
      refine bw_cVi (As := [.int a0, .int a1, .int a2]) (st := []) cv_BentWordsModel_300 rfl rfl hr rfl rfl (Nat.le_of_ble_eq_true rfl) dX12_byDefault_20 (fun v2 w3 hv => ?_)
      replace h := h v2 w3 hv
      clear hr
      refine bw_goto (tgt := 27) dX12_byDefault_23 (by decide) ?_
      exact bw_ireturn dX12_byDefault_27 rfl rfl ⟨_, rfl, h⟩
theorem wfX12_word {E : bw_E} {d : Nat} {w : bw_W} {Q : Int32 → bw_W → Prop} {a0 : Bool} {a1 : Int32} {a2 : Int32} {a3 : Int32} {a4 : Int32}  (h : ((¬ (¬ ((gw_i w 50 34) ≤ 0)) → Q (-1) w) ∧ ((¬ ((gw_i w 50 34) ≤ 0)) → ((¬ (((¬ (a1 < 0)) ∧ (¬ (3 < a1))) ∧ ((¬ (a2 < 0)) ∧ (¬ (1 < a2)))) → Q (-1) w) ∧ (((¬ (a1 < 0)) ∧ (¬ (3 < a1))) ∧ ((¬ (a2 < 0)) ∧ (¬ (1 < a2))) → (((¬ (a3 < 0)) ∧ (¬ (2 < a3)) → (((vp_in (vX12_wordAt a0 a1 a2 a3) 48))) ∧
((((gw_l w 67 ((vX12_wordAt a0 a1 a2 a3).toNatClampNeg)) = 0) → (vp_in (vX12_wordAt a0 a1 a2 0) 48))) ∧
(∃ Q3 : Int32 → bw_W → Prop, bw_ri E (d + 2) mX12_letter [.long (vX12_wordOf w a0 a1 a2 a3), .int a4] w Q3 ∧ ∀ v4 w5, Q3 v4 w5 →
Q v4 w5)) ∧ (¬ ((¬ (a3 < 0)) ∧ (¬ (2 < a3))) → Q (-1) w))))))) : bw_ri E (d + 3) mX12_word [.ref 50, .int (bw_b a0), .int a1, .int a2, .int a3, .int a4] w Q := by
  refine bw_enter rfl (Nat.le_of_ble_eq_true rfl) ?_
  refine bw_aload_n (i := 0) dX12_word_0 rfl rfl ?_
  refine bw_cVb (As := []) (st := []) (Q' := (fun v w1 => (decide (¬ ((gw_i w 50 34) ≤ 0))) = v ∧ w = w1)) cv_BentWordsModel_272 rfl rfl (fs_X12_isLexicon (d := d + 2)   ⟨rfl, rfl⟩) rfl rfl (Nat.le_of_ble_eq_true rfl) dX12_word_1 (fun v w1 hv => ?_)
  obtain ⟨rfl, rfl⟩ := hv
  refine bw_ifb_eq (tgt := 25) dX12_word_4 (by decide) (fun c => ?_) (fun c => ?_)
  · replace h := h.1 (of_decide_eq_false c)
    refine bw_iconst (v := (-1)) dX12_word_25 (by decide) ?_
    exact bw_ireturn dX12_word_26 rfl rfl ⟨_, rfl, h⟩
  · replace h := h.2 (of_decide_eq_true c)
    refine bw_iload_n (i := 2) dX12_word_7 rfl rfl ?_
    refine bw_iload_n (i := 3) dX12_word_8 rfl rfl ?_
    refine bw_cSb (As := [.int a1, .int a2]) (st := []) (Q' := (fun v w1 => (decide (((¬ (a1 < 0)) ∧ (¬ (3 < a1))) ∧ ((¬ (a2 < 0)) ∧ (¬ (1 < a2))))) = v ∧ w = w1)) cs_BentWordsModel_382 (fs_X12_isForm (d := d + 1) (a0 := a1) (a1 := a2)  ⟨rfl, rfl⟩) rfl rfl (Nat.le_of_ble_eq_true rfl) dX12_word_9 (fun v w1 hv => ?_)
    obtain ⟨rfl, rfl⟩ := hv
    refine bw_ifb_eq (tgt := 25) dX12_word_12 (by decide) (fun c => ?_) (fun c => ?_)
    · replace h := h.1 (of_decide_eq_false c)
      refine bw_iconst (v := (-1)) dX12_word_25 (by decide) ?_
      exact bw_ireturn dX12_word_26 rfl rfl ⟨_, rfl, h⟩
    · replace h := h.2 (of_decide_eq_true c)
      refine bw_iload dX12_word_15 rfl ?_
      refine bw_iconst (v := 0) dX12_word_17 (by decide) ?_
      refine bw_iconst (v := 2) dX12_word_18 (by decide) ?_
      refine bw_cSb (As := [.int a3, .int 0, .int 2]) (st := []) (Q' := (fun v w1 => (decide ((¬ (a3 < 0)) ∧ (¬ (2 < a3)))) = v ∧ w = w1)) cs_BentWordsModel_100 (fs_X12_in (d := d + 2) (a0 := a3) (a1 := 0) (a2 := 2)  ⟨rfl, rfl⟩) rfl rfl (Nat.le_of_ble_eq_true rfl) dX12_word_19 (fun v w1 hv => ?_)
      obtain ⟨rfl, rfl⟩ := hv
      refine bw_ifb_ne (tgt := 27) dX12_word_22 (by decide) (fun c => ?_) (fun c => ?_)
      · replace h := h.1 (of_decide_eq_true c)
        refine bw_aload_n (i := 0) dX12_word_27 rfl rfl ?_
        refine bw_iload_n (i := 1) dX12_word_28 rfl rfl ?_
        refine bw_iload_n (i := 2) dX12_word_29 rfl rfl ?_
        refine bw_iload_n (i := 3) dX12_word_30 rfl rfl ?_
        refine bw_iload dX12_word_31 rfl ?_
        obtain ⟨hc1, h⟩ := h
        obtain ⟨hc2, h⟩ := h
        refine bw_cVl (As := [.int (bw_b a0), .int a1, .int a2, .int a3]) (st := []) (Q' := (fun v w1 => (vX12_wordOf w a0 a1 a2 a3) = v ∧ w = w1)) cv_BentWordsModel_347 rfl rfl (fs_X12_wordOf (d := d + 0) (a0 := a0) (a1 := a1) (a2 := a2) (a3 := a3) hc1 hc2 ⟨rfl, rfl⟩) rfl rfl (Nat.le_of_ble_eq_true rfl) dX12_word_33 (fun v w1 hv => ?_)
        obtain ⟨rfl, rfl⟩ := hv
        refine bw_iload dX12_word_36 rfl ?_
        obtain ⟨Q3, hr, h⟩ := h
        refine bw_cSi (As := [.long (vX12_wordOf w a0 a1 a2 a3), .int a4]) (st := []) cs_BentWordsModel_450 hr rfl rfl (Nat.le_of_ble_eq_true rfl) dX12_word_38 (fun v4 w5 hv => ?_)
        replace h := h v4 w5 hv
        clear hr
        exact bw_ireturn dX12_word_41 rfl rfl ⟨_, rfl, h⟩
      · replace h := h.2 (of_decide_eq_false c)
        refine bw_iconst (v := (-1)) dX12_word_25 (by decide) ?_
        exact bw_ireturn dX12_word_26 rfl rfl ⟨_, rfl, h⟩
theorem wfX12_missingAt {E : bw_E} {d : Nat} {w : bw_W} {Q : Int32 → bw_W → Prop} {a0 : Int32}  (h : (((vp_in (3 * a0) 96))) ∧
(((¬ ((gw_i w 69 ((3 * a0).toNatClampNeg)) = 1)) → (vp_in (3 * a0) 96))) ∧
((¬ (((gw_i w 69 ((3 * a0).toNatClampNeg)) = 1) ∨ ((gw_i w 69 ((3 * a0).toNatClampNeg)) = 2)) → Q 0 w) ∧ (((gw_i w 69 ((3 * a0).toNatClampNeg)) = 1) ∨ ((gw_i w 69 ((3 * a0).toNatClampNeg)) = 2) → (vp_in ((3 * a0) + 1) 96) ∧
(((vp_in (1 + (2 * (gw_i w 69 (((3 * a0) + 1).toNatClampNeg)))) 236))) ∧
((¬ (vX12_nounIn w (gw_i w 69 (((3 * a0) + 1).toNatClampNeg))) = (-1) → (vp_in ((3 * a0) + 1) 96) ∧
(((vp_in (1 + (2 * (gw_i w 69 (((3 * a0) + 1).toNatClampNeg)))) 236))) ∧
(vp_in ((3 * a0) + 2) 96) ∧
(((((vp_in ((1 + (2 * (gw_i w 69 (((3 * a0) + 1).toNatClampNeg)))) + 1) 236))))) ∧
(∃ Q9 : Int32 → bw_W → Prop, bw_ri E (d + 2) mX12_defaultOf [.ref 50, .int (vX12_nounIn w (gw_i w 69 (((3 * a0) + 1).toNatClampNeg))), .int (gw_i w 69 (((3 * a0) + 2).toNatClampNeg)), .int (vX12_numberIn w (gw_i w 69 (((3 * a0) + 1).toNatClampNeg)))] w Q9 ∧ ∀ v10 w11, Q9 v10 w11 →
Q v10 w11)) ∧ ((vX12_nounIn w (gw_i w 69 (((3 * a0) + 1).toNatClampNeg))) = (-1) → Q 0 w))))) : bw_ri E (d + 3) mX12_missingAt [.ref 50, .int a0] w Q := by
  refine bw_enter rfl (Nat.le_of_ble_eq_true rfl) ?_
  refine bw_aload_n (i := 0) dX12_missingAt_0 rfl rfl ?_
  refine bw_iload_n (i := 1) dX12_missingAt_1 rfl rfl ?_
  obtain ⟨hc1, h⟩ := h
  obtain ⟨hc2, h⟩ := h
  refine bw_cVb (As := [.int a0]) (st := []) (Q' := (fun v w1 => (decide (((gw_i w 69 ((3 * a0).toNatClampNeg)) = 1) ∨ ((gw_i w 69 ((3 * a0).toNatClampNeg)) = 2))) = v ∧ w = w1)) cv_BentWordsModel_459 rfl rfl (fs_X12_isFormItem (d := d + 2) (a0 := a0) hc1 hc2 ⟨rfl, rfl⟩) rfl rfl (Nat.le_of_ble_eq_true rfl) dX12_missingAt_2 (fun v w1 hv => ?_)
  obtain ⟨rfl, rfl⟩ := hv
  refine bw_ifb_eq (tgt := 26) dX12_missingAt_5 (by decide) (fun c => ?_) (fun c => ?_)
  · replace h := h.1 (of_decide_eq_false c)
    refine bw_iconst (v := 0) dX12_missingAt_26 (by decide) ?_
    exact bw_ireturn dX12_missingAt_27 rfl rfl ⟨_, rfl, h⟩
  · replace h := h.2 (of_decide_eq_true c)
    refine bw_aload_n (i := 0) dX12_missingAt_8 rfl rfl ?_
    refine bw_aload_n (i := 0) dX12_missingAt_9 rfl rfl ?_
    refine bw_getr (r := 69) fg_BentWordsModel_65 rfl rfl dX12_missingAt_10 ?_
    refine bw_iconst (v := 3) dX12_missingAt_13 (by decide) ?_
    refine bw_iload_n (i := 1) dX12_missingAt_14 rfl rfl ?_
    refine bw_imul dX12_missingAt_15 ?_
    refine bw_iconst (v := 1) dX12_missingAt_16 (by decide) ?_
    refine bw_iadd dX12_missingAt_17 ?_
    obtain ⟨hi3, h⟩ := h
    refine bw_iaload rfl hi3 dX12_missingAt_18 ?_
    obtain ⟨hc4, h⟩ := h
    refine bw_cVi (As := [.int (gw_i w 69 (((3 * a0) + 1).toNatClampNeg))]) (st := []) (Q' := (fun v w1 => (vX12_nounIn w (gw_i w 69 (((3 * a0) + 1).toNatClampNeg))) = v ∧ w = w1)) cv_BentWordsModel_330 rfl rfl (fs_X12_nounIn (d := d + 2) (a0 := (gw_i w 69 (((3 * a0) + 1).toNatClampNeg))) hc4 ⟨rfl, rfl⟩) rfl rfl (Nat.le_of_ble_eq_true rfl) dX12_missingAt_19 (fun v w1 hv => ?_)
    obtain ⟨rfl, rfl⟩ := hv
    refine bw_iconst (v := (-1)) dX12_missingAt_22 (by decide) ?_
    refine bw_icmp_ne (tgt := 28) dX12_missingAt_23 (by decide) (fun c => ?_) (fun c => ?_)
    · replace h := h.1 (c)
      refine bw_aload_n (i := 0) dX12_missingAt_28 rfl rfl ?_
      refine bw_getr (r := 69) fg_BentWordsModel_65 rfl rfl dX12_missingAt_29 ?_
      refine bw_iconst (v := 3) dX12_missingAt_32 (by decide) ?_
      refine bw_iload_n (i := 1) dX12_missingAt_33 rfl rfl ?_
      refine bw_imul dX12_missingAt_34 ?_
      refine bw_iconst (v := 1) dX12_missingAt_35 (by decide) ?_
      refine bw_iadd dX12_missingAt_36 ?_
      obtain ⟨hi5, h⟩ := h
      refine bw_iaload rfl hi5 dX12_missingAt_37 ?_
      refine bw_istore_n (i := 2) (L' := [some (.ref 50), some (.int a0), some (.int (gw_i w 69 (((3 * a0) + 1).toNatClampNeg)))]) dX12_missingAt_38 rfl (Nat.le_of_ble_eq_true rfl) rfl ?_
      refine bw_aload_n (i := 0) dX12_missingAt_39 rfl rfl ?_
      refine bw_aload_n (i := 0) dX12_missingAt_40 rfl rfl ?_
      refine bw_iload_n (i := 2) dX12_missingAt_41 rfl rfl ?_
      obtain ⟨hc6, h⟩ := h
      refine bw_cVi (As := [.int (gw_i w 69 (((3 * a0) + 1).toNatClampNeg))]) (st := [.ref 50]) (Q' := (fun v w1 => (vX12_nounIn w (gw_i w 69 (((3 * a0) + 1).toNatClampNeg))) = v ∧ w = w1)) cv_BentWordsModel_330 rfl rfl (fs_X12_nounIn (d := d + 2) (a0 := (gw_i w 69 (((3 * a0) + 1).toNatClampNeg))) hc6 ⟨rfl, rfl⟩) rfl rfl (Nat.le_of_ble_eq_true rfl) dX12_missingAt_42 (fun v w1 hv => ?_)
      obtain ⟨rfl, rfl⟩ := hv
      refine bw_aload_n (i := 0) dX12_missingAt_45 rfl rfl ?_
      refine bw_getr (r := 69) fg_BentWordsModel_65 rfl rfl dX12_missingAt_46 ?_
      refine bw_iconst (v := 3) dX12_missingAt_49 (by decide) ?_
      refine bw_iload_n (i := 1) dX12_missingAt_50 rfl rfl ?_
      refine bw_imul dX12_missingAt_51 ?_
      refine bw_iconst (v := 2) dX12_missingAt_52 (by decide) ?_
      refine bw_iadd dX12_missingAt_53 ?_
      obtain ⟨hi7, h⟩ := h
      refine bw_iaload rfl hi7 dX12_missingAt_54 ?_
      refine bw_aload_n (i := 0) dX12_missingAt_55 rfl rfl ?_
      refine bw_iload_n (i := 2) dX12_missingAt_56 rfl rfl ?_
      obtain ⟨hc8, h⟩ := h
      refine bw_cVi (As := [.int (gw_i w 69 (((3 * a0) + 1).toNatClampNeg))]) (st := [.int (gw_i w 69 (((3 * a0) + 2).toNatClampNeg)), .int (vX12_nounIn w (gw_i w 69 (((3 * a0) + 1).toNatClampNeg))), .ref 50]) (Q' := (fun v w1 => (vX12_numberIn w (gw_i w 69 (((3 * a0) + 1).toNatClampNeg))) = v ∧ w = w1)) cv_BentWordsModel_333 rfl rfl (fs_X12_numberIn (d := d + 1) (a0 := (gw_i w 69 (((3 * a0) + 1).toNatClampNeg))) hc8 ⟨rfl, rfl⟩) rfl rfl (Nat.le_of_ble_eq_true rfl) dX12_missingAt_57 (fun v w1 hv => ?_)
      obtain ⟨rfl, rfl⟩ := hv
      obtain ⟨Q9, hr, h⟩ := h
      refine bw_cVi (As := [.int (vX12_nounIn w (gw_i w 69 (((3 * a0) + 1).toNatClampNeg))), .int (gw_i w 69 (((3 * a0) + 2).toNatClampNeg)), .int (vX12_numberIn w (gw_i w 69 (((3 * a0) + 1).toNatClampNeg)))]) (st := []) cv_BentWordsModel_300 rfl rfl hr rfl rfl (Nat.le_of_ble_eq_true rfl) dX12_missingAt_60 (fun v10 w11 hv => ?_)
      replace h := h v10 w11 hv
      clear hr
      exact bw_ireturn dX12_missingAt_63 rfl rfl ⟨_, rfl, h⟩
    · replace h := h.2 (c)
      refine bw_iconst (v := 0) dX12_missingAt_26 (by decide) ?_
      exact bw_ireturn dX12_missingAt_27 rfl rfl ⟨_, rfl, h⟩
theorem wfX12_fitsNoun_6 {E : bw_E} {d : Nat} {w : bw_W} {Q : Bool → bw_W → Prop} {l1 : Int32} {l2 : Int32} {l3 : Int32} {l4 : Int32}  (h : (vp_in l1 4) ∧
((((8 * l1) + (gw_i w 68 (l1.toNatClampNeg))) ≤ l4 → Q true w) ∧ (¬ (((8 * l1) + (gw_i w 68 (l1.toNatClampNeg))) ≤ l4) → (((vp_in (3 * l4) 96))) ∧
(((¬ ((gw_i w 69 ((3 * l4).toNatClampNeg)) = 1)) → (vp_in (3 * l4) 96))) ∧
((¬ (((gw_i w 69 ((3 * l4).toNatClampNeg)) = 1) ∨ ((gw_i w 69 ((3 * l4).toNatClampNeg)) = 2)) → bw_G E (d + 3) mX12_fitsNoun 6 [some (.ref 50), some (.int l1), some (.int l2), some (.int l3), some (.int (l4 + 1)), none] [] w (bw_qb Q)) ∧ (((gw_i w 69 ((3 * l4).toNatClampNeg)) = 1) ∨ ((gw_i w 69 ((3 * l4).toNatClampNeg)) = 2) → (vp_in ((3 * l4) + 1) 96) ∧
((¬ (gw_i w 69 (((3 * l4) + 1).toNatClampNeg)) = l2 → bw_G E (d + 3) mX12_fitsNoun 6 [some (.ref 50), some (.int l1), some (.int l2), some (.int l3), some (.int (l4 + 1)), none] [] w (bw_qb Q)) ∧ ((gw_i w 69 (((3 * l4) + 1).toNatClampNeg)) = l2 → bw_G E (d + 3) mX12_fitsNoun 49 [some (.ref 50), some (.int l1), some (.int l2), some (.int l3), some (.int l4), some (.int 0)] [] w (bw_qb Q)))))))) : bw_G E (d + 3) mX12_fitsNoun 6 [some (.ref 50), some (.int l1), some (.int l2), some (.int l3), some (.int l4), none] [] w (bw_qb Q) := by
  refine bw_iload dX12_fitsNoun_6 rfl ?_
  refine bw_bipush (v := 8) dX12_fitsNoun_8 (by decide) ?_
  refine bw_iload_n (i := 1) dX12_fitsNoun_10 rfl rfl ?_
  refine bw_imul dX12_fitsNoun_11 ?_
  refine bw_aload_n (i := 0) dX12_fitsNoun_12 rfl rfl ?_
  refine bw_getr (r := 68) fg_BentWordsModel_62 rfl rfl dX12_fitsNoun_13 ?_
  refine bw_iload_n (i := 1) dX12_fitsNoun_16 rfl rfl ?_
  obtain ⟨hi1, h⟩ := h
  refine bw_iaload rfl hi1 dX12_fitsNoun_17 ?_
  refine bw_iadd dX12_fitsNoun_18 ?_
  refine bw_icmp_ge (tgt := 90) dX12_fitsNoun_19 (by decide) (fun c => ?_) (fun c => ?_)
  · replace h := h.1 (c)
    refine bw_iconst (v := 1) dX12_fitsNoun_90 (by decide) ?_
    exact bw_ireturn dX12_fitsNoun_91 rfl (bw_nb true) ⟨true, rfl, h⟩
  · replace h := h.2 (c)
    refine bw_aload_n (i := 0) dX12_fitsNoun_22 rfl rfl ?_
    refine bw_iload dX12_fitsNoun_23 rfl ?_
    obtain ⟨hc2, h⟩ := h
    obtain ⟨hc3, h⟩ := h
    refine bw_cVb (As := [.int l4]) (st := []) (Q' := (fun v w1 => (decide (((gw_i w 69 ((3 * l4).toNatClampNeg)) = 1) ∨ ((gw_i w 69 ((3 * l4).toNatClampNeg)) = 2))) = v ∧ w = w1)) cv_BentWordsModel_459 rfl rfl (fs_X12_isFormItem (d := d + 2) (a0 := l4) hc2 hc3 ⟨rfl, rfl⟩) rfl rfl (Nat.le_of_ble_eq_true rfl) dX12_fitsNoun_25 (fun v w1 hv => ?_)
    obtain ⟨rfl, rfl⟩ := hv
    refine bw_ifb_eq (tgt := 84) dX12_fitsNoun_28 (by decide) (fun c => ?_) (fun c => ?_)
    · replace h := h.1 (of_decide_eq_false c)
      refine bw_iinc (i := 4) (x := l4) (v := (l4 + 1)) (L' := [some (.ref 50), some (.int l1), some (.int l2), some (.int l3), some (.int (l4 + 1)), none]) dX12_fitsNoun_84 rfl rfl (Nat.le_of_ble_eq_true rfl) rfl ?_
      refine bw_goto (tgt := 6) dX12_fitsNoun_87 (by decide) ?_
      exact h
    · replace h := h.2 (of_decide_eq_true c)
      refine bw_aload_n (i := 0) dX12_fitsNoun_31 rfl rfl ?_
      refine bw_getr (r := 69) fg_BentWordsModel_65 rfl rfl dX12_fitsNoun_32 ?_
      refine bw_iconst (v := 3) dX12_fitsNoun_35 (by decide) ?_
      refine bw_iload dX12_fitsNoun_36 rfl ?_
      refine bw_imul dX12_fitsNoun_38 ?_
      refine bw_iconst (v := 1) dX12_fitsNoun_39 (by decide) ?_
      refine bw_iadd dX12_fitsNoun_40 ?_
      obtain ⟨hi4, h⟩ := h
      refine bw_iaload rfl hi4 dX12_fitsNoun_41 ?_
      refine bw_iload_n (i := 2) dX12_fitsNoun_42 rfl rfl ?_
      refine bw_icmp_ne (tgt := 84) dX12_fitsNoun_43 (by decide) (fun c => ?_) (fun c => ?_)
      · replace h := h.1 (c)
        refine bw_iinc (i := 4) (x := l4) (v := (l4 + 1)) (L' := [some (.ref 50), some (.int l1), some (.int l2), some (.int l3), some (.int (l4 + 1)), none]) dX12_fitsNoun_84 rfl rfl (Nat.le_of_ble_eq_true rfl) rfl ?_
        refine bw_goto (tgt := 6) dX12_fitsNoun_87 (by decide) ?_
        exact h
      · replace h := h.2 (c)
        refine bw_iconst (v := 0) dX12_fitsNoun_46 (by decide) ?_
        refine bw_istore (i := 5) (L' := [some (.ref 50), some (.int l1), some (.int l2), some (.int l3), some (.int l4), some (.int 0)]) dX12_fitsNoun_47 (Nat.le_of_ble_eq_true rfl) rfl ?_
        exact h
theorem wfX12_fitsNoun_49 {E : bw_E} {d : Nat} {w : bw_W} {Q : Bool → bw_W → Prop} {l1 : Int32} {l2 : Int32} {l3 : Int32} {l4 : Int32} {l5 : Int32}  (h : ((2 ≤ l5 → bw_G E (d + 3) mX12_fitsNoun 6 [some (.ref 50), some (.int l1), some (.int l2), some (.int l3), some (.int (l4 + 1)), none] [] w (bw_qb Q)) ∧ (¬ (2 ≤ l5) → (vp_in ((3 * l4) + 2) 96) ∧
(∃ Q2 : Int32 → bw_W → Prop, bw_ri E (d + 2) mX12_defaultOf [.ref 50, .int l3, .int (gw_i w 69 (((3 * l4) + 2).toNatClampNeg)), .int l5] w Q2 ∧ ∀ v3 w4, Q2 v3 w4 →
((v3 ≤ 0 → bw_G E (d + 3) mX12_fitsNoun 49 [some (.ref 50), some (.int l1), some (.int l2), some (.int l3), some (.int l4), some (.int (l5 + 1))] [] w4 (bw_qb Q)) ∧ (¬ (v3 ≤ 0) → Q false w4)))))) : bw_G E (d + 3) mX12_fitsNoun 49 [some (.ref 50), some (.int l1), some (.int l2), some (.int l3), some (.int l4), some (.int l5)] [] w (bw_qb Q) := by
  refine bw_iload dX12_fitsNoun_49 rfl ?_
  refine bw_iconst (v := 2) dX12_fitsNoun_51 (by decide) ?_
  refine bw_icmp_ge (tgt := 84) dX12_fitsNoun_52 (by decide) (fun c => ?_) (fun c => ?_)
  · replace h := h.1 (c)
    refine bw_iinc (i := 4) (x := l4) (v := (l4 + 1)) (L' := [some (.ref 50), some (.int l1), some (.int l2), some (.int l3), some (.int (l4 + 1)), some (.int l5)]) dX12_fitsNoun_84 rfl rfl (Nat.le_of_ble_eq_true rfl) rfl ?_
    refine bw_goto (tgt := 6) dX12_fitsNoun_87 (by decide) ?_
    exact bw_wk [5] rfl h
  · replace h := h.2 (c)
    refine bw_aload_n (i := 0) dX12_fitsNoun_55 rfl rfl ?_
    refine bw_iload_n (i := 3) dX12_fitsNoun_56 rfl rfl ?_
    refine bw_aload_n (i := 0) dX12_fitsNoun_57 rfl rfl ?_
    refine bw_getr (r := 69) fg_BentWordsModel_65 rfl rfl dX12_fitsNoun_58 ?_
    refine bw_iconst (v := 3) dX12_fitsNoun_61 (by decide) ?_
    refine bw_iload dX12_fitsNoun_62 rfl ?_
    refine bw_imul dX12_fitsNoun_64 ?_
    refine bw_iconst (v := 2) dX12_fitsNoun_65 (by decide) ?_
    refine bw_iadd dX12_fitsNoun_66 ?_
    obtain ⟨hi1, h⟩ := h
    refine bw_iaload rfl hi1 dX12_fitsNoun_67 ?_
    refine bw_iload dX12_fitsNoun_68 rfl ?_
    obtain ⟨Q2, hr, h⟩ := h
    refine bw_cVi (As := [.int l3, .int (gw_i w 69 (((3 * l4) + 2).toNatClampNeg)), .int l5]) (st := []) cv_BentWordsModel_300 rfl rfl hr rfl rfl (Nat.le_of_ble_eq_true rfl) dX12_fitsNoun_70 (fun v3 w4 hv => ?_)
    replace h := h v3 w4 hv
    clear hr
    refine bw_if_le (tgt := 78) dX12_fitsNoun_73 (by decide) (fun c => ?_) (fun c => ?_)
    · replace h := h.1 (c)
      refine bw_iinc (i := 5) (x := l5) (v := (l5 + 1)) (L' := [some (.ref 50), some (.int l1), some (.int l2), some (.int l3), some (.int l4), some (.int (l5 + 1))]) dX12_fitsNoun_78 rfl rfl (Nat.le_of_ble_eq_true rfl) rfl ?_
      refine bw_goto (tgt := 49) dX12_fitsNoun_81 (by decide) ?_
      exact h
    · replace h := h.2 (c)
      refine bw_iconst (v := 0) dX12_fitsNoun_76 (by decide) ?_
      exact bw_ireturn dX12_fitsNoun_77 rfl (bw_nb false) ⟨false, rfl, h⟩
theorem wfX12_fitsNoun {E : bw_E} {d : Nat} {w : bw_W} {Q : Bool → bw_W → Prop} {a0 : Int32} {a1 : Int32} {a2 : Int32}  (h : bw_G E (d + 3) mX12_fitsNoun 6 [some (.ref 50), some (.int a0), some (.int a1), some (.int a2), some (.int (8 * a0)), none] [] w (bw_qb Q)) : bw_rb E (d + 3) mX12_fitsNoun [.ref 50, .int a0, .int a1, .int a2] w Q := by
  refine bw_enter rfl (Nat.le_of_ble_eq_true rfl) ?_
  refine bw_bipush (v := 8) dX12_fitsNoun_0 (by decide) ?_
  refine bw_iload_n (i := 1) dX12_fitsNoun_2 rfl rfl ?_
  refine bw_imul dX12_fitsNoun_3 ?_
  refine bw_istore (i := 4) (L' := [some (.ref 50), some (.int a0), some (.int a1), some (.int a2), some (.int (8 * a0)), none]) dX12_fitsNoun_4 (Nat.le_of_ble_eq_true rfl) rfl ?_
  exact h
theorem wfX10_tellableBits_4 {E : bw_E} {d : Nat} {w : bw_W} {Q : Int32 → bw_W → Prop} {l1 : Int32} {l2 : Int32}  (h : (((gw_i w 18 6) ≤ l2 → Q l1 w) ∧ (¬ ((gw_i w 18 6) ≤ l2) → (∃ Q1 : Bool → bw_W → Prop, bw_rb E (d + 3) mX10_canTell [.ref 35, .int l2] w Q1 ∧ ∀ v2 w3, Q1 v2 w3 →
((v2 = false → bw_G E (d + 4) mX10_tellableBits 4 [some (.ref 35), some (.int l1), some (.int (l2 + 1))] [] w3 (bw_qi Q)) ∧ (v2 = true → bw_G E (d + 4) mX10_tellableBits 4 [some (.ref 35), some (.int (l1 ||| ((1 : Int32) <<< (l2 &&& 31)))), some (.int (l2 + 1))] [] w3 (bw_qi Q))))))) : bw_G E (d + 4) mX10_tellableBits 4 [some (.ref 35), some (.int l1), some (.int l2)] [] w (bw_qi Q) := by
  refine bw_iload_n (i := 2) dX10_tellableBits_4 rfl rfl ?_
  refine bw_aload_n (i := 0) dX10_tellableBits_5 rfl rfl ?_
  refine bw_getr (r := 18) fg_BentWords_Teller_9 rfl rfl dX10_tellableBits_6 ?_
  refine bw_geti fg_BentWords_Teller_45 rfl dX10_tellableBits_9 ?_
  refine bw_icmp_ge (tgt := 35) dX10_tellableBits_12 (by decide) (fun c => ?_) (fun c => ?_)
  · replace h := h.1 (c)
    refine bw_iload_n (i := 1) dX10_tellableBits_35 rfl rfl ?_
    exact bw_ireturn dX10_tellableBits_36 rfl rfl ⟨_, rfl, h⟩
  · replace h := h.2 (c)
    refine bw_aload_n (i := 0) dX10_tellableBits_15 rfl rfl ?_
    refine bw_iload_n (i := 2) dX10_tellableBits_16 rfl rfl ?_
    obtain ⟨Q1, hr, h⟩ := h
    refine bw_cVb (As := [.int l2]) (st := []) cv_BentWords_Teller_49 rfl rfl hr rfl rfl (Nat.le_of_ble_eq_true rfl) dX10_tellableBits_17 (fun v2 w3 hv => ?_)
    replace h := h v2 w3 hv
    clear hr
    refine bw_ifb_eq (tgt := 29) dX10_tellableBits_20 (by decide) (fun c => ?_) (fun c => ?_)
    · replace h := h.1 (c)
      refine bw_iinc (i := 2) (x := l2) (v := (l2 + 1)) (L' := [some (.ref 35), some (.int l1), some (.int (l2 + 1))]) dX10_tellableBits_29 rfl rfl (Nat.le_of_ble_eq_true rfl) rfl ?_
      refine bw_goto (tgt := 4) dX10_tellableBits_32 (by decide) ?_
      exact h
    · replace h := h.2 (c)
      refine bw_iload_n (i := 1) dX10_tellableBits_23 rfl rfl ?_
      refine bw_iconst (v := 1) dX10_tellableBits_24 (by decide) ?_
      refine bw_iload_n (i := 2) dX10_tellableBits_25 rfl rfl ?_
      refine bw_ishl dX10_tellableBits_26 ?_
      refine bw_ior dX10_tellableBits_27 ?_
      refine bw_istore_n (i := 1) (L' := [some (.ref 35), some (.int (l1 ||| ((1 : Int32) <<< (l2 &&& 31)))), some (.int l2)]) dX10_tellableBits_28 rfl (Nat.le_of_ble_eq_true rfl) rfl ?_
      refine bw_iinc (i := 2) (x := l2) (v := (l2 + 1)) (L' := [some (.ref 35), some (.int (l1 ||| ((1 : Int32) <<< (l2 &&& 31)))), some (.int (l2 + 1))]) dX10_tellableBits_29 rfl rfl (Nat.le_of_ble_eq_true rfl) rfl ?_
      refine bw_goto (tgt := 4) dX10_tellableBits_32 (by decide) ?_
      exact h
theorem wfX10_tellableBits {E : bw_E} {d : Nat} {w : bw_W} {Q : Int32 → bw_W → Prop}   (h : bw_G E (d + 4) mX10_tellableBits 4 [some (.ref 35), some (.int 0), some (.int 0)] [] w (bw_qi Q)) : bw_ri E (d + 4) mX10_tellableBits [.ref 35] w Q := by
  refine bw_enter rfl (Nat.le_of_ble_eq_true rfl) ?_
  refine bw_iconst (v := 0) dX10_tellableBits_0 (by decide) ?_
  refine bw_istore_n (i := 1) (L' := [some (.ref 35), some (.int 0), none]) dX10_tellableBits_1 rfl (Nat.le_of_ble_eq_true rfl) rfl ?_
  refine bw_iconst (v := 0) dX10_tellableBits_2 (by decide) ?_
  refine bw_istore_n (i := 2) (L' := [some (.ref 35), some (.int 0), some (.int 0)]) dX10_tellableBits_3 rfl (Nat.le_of_ble_eq_true rfl) rfl ?_
  exact h
theorem wfX10_bytesTold_22 {E : bw_E} {d : Nat} {w : bw_W} {Q : Int32 → bw_W → Prop} {l1 : Int32} {l2 : Int32} {l3 : Int32}  (h : (vp_in l1 4) ∧
(((l2 + (gw_i w 25 (l1.toNatClampNeg))) ≤ l3 → Q (gw_i w 35 3) w) ∧ (¬ ((l2 + (gw_i w 25 (l1.toNatClampNeg))) ≤ l3) → (∃ Q2 : bw_W → Prop, bw_rv E (d + 3) mX10_putItem [.ref 35, .int l3] w Q2 ∧ ∀ w4, Q2 w4 →
bw_G E (d + 4) mX10_bytesTold 22 [some (.ref 35), some (.int l1), some (.int l2), some (.int (l3 + 1))] [] w4 (bw_qi Q))))) : bw_G E (d + 4) mX10_bytesTold 22 [some (.ref 35), some (.int l1), some (.int l2), some (.int l3)] [] w (bw_qi Q) := by
  refine bw_iload_n (i := 3) dX10_bytesTold_22 rfl rfl ?_
  refine bw_iload_n (i := 2) dX10_bytesTold_23 rfl rfl ?_
  refine bw_aload_n (i := 0) dX10_bytesTold_24 rfl rfl ?_
  refine bw_getr (r := 18) fg_BentWords_Teller_9 rfl rfl dX10_bytesTold_25 ?_
  refine bw_getr (r := 25) fg_BentWords_Teller_53 rfl rfl dX10_bytesTold_28 ?_
  refine bw_iload_n (i := 1) dX10_bytesTold_31 rfl rfl ?_
  obtain ⟨hi1, h⟩ := h
  refine bw_iaload rfl hi1 dX10_bytesTold_32 ?_
  refine bw_iadd dX10_bytesTold_33 ?_
  refine bw_icmp_ge (tgt := 48) dX10_bytesTold_34 (by decide) (fun c => ?_) (fun c => ?_)
  · replace h := h.1 (c)
    refine bw_aload_n (i := 0) dX10_bytesTold_48 rfl rfl ?_
    refine bw_geti fg_BentWords_Teller_119 rfl dX10_bytesTold_49 ?_
    exact bw_ireturn dX10_bytesTold_52 rfl rfl ⟨_, rfl, h⟩
  · replace h := h.2 (c)
    refine bw_aload_n (i := 0) dX10_bytesTold_37 rfl rfl ?_
    refine bw_iload_n (i := 3) dX10_bytesTold_38 rfl rfl ?_
    obtain ⟨Q2, hr, h⟩ := h
    refine bw_cVv (As := [.int l3]) (st := []) cv_BentWords_Teller_122 rfl rfl hr rfl rfl (Nat.le_of_ble_eq_true rfl) dX10_bytesTold_39 (fun w4 hv => ?_)
    replace h := h w4 hv
    clear hr
    refine bw_iinc (i := 3) (x := l3) (v := (l3 + 1)) (L' := [some (.ref 35), some (.int l1), some (.int l2), some (.int (l3 + 1))]) dX10_bytesTold_42 rfl rfl (Nat.le_of_ble_eq_true rfl) rfl ?_
    refine bw_goto (tgt := 22) dX10_bytesTold_45 (by decide) ?_
    exact h
theorem wfX10_bytesTold {E : bw_E} {d : Nat} {w : bw_W} {Q : Int32 → bw_W → Prop} {a0 : Int32}  (h : (∃ Q1 : Bool → bw_W → Prop, bw_rb E (d + 3) mX10_canTell [.ref 35, .int a0] w Q1 ∧ ∀ v2 w3, Q1 v2 w3 →
((v2 = true → bw_G E (d + 4) mX10_bytesTold 22 [some (.ref 35), some (.int a0), some (.int (a0 * 8)), some (.int (a0 * 8))] [] (sw_i w3 35 3 0) (bw_qi Q)) ∧ (v2 = false → Q (-1) w3)))) : bw_ri E (d + 4) mX10_bytesTold [.ref 35, .int a0] w Q := by
  refine bw_enter rfl (Nat.le_of_ble_eq_true rfl) ?_
  refine bw_aload_n (i := 0) dX10_bytesTold_0 rfl rfl ?_
  refine bw_iload_n (i := 1) dX10_bytesTold_1 rfl rfl ?_
  obtain ⟨Q1, hr, h⟩ := h
  refine bw_cVb (As := [.int a0]) (st := []) cv_BentWords_Teller_49 rfl rfl hr rfl rfl (Nat.le_of_ble_eq_true rfl) dX10_bytesTold_2 (fun v2 w3 hv => ?_)
  replace h := h v2 w3 hv
  clear hr
  refine bw_ifb_ne (tgt := 10) dX10_bytesTold_5 (by decide) (fun c => ?_) (fun c => ?_)
  · replace h := h.1 (c)
    refine bw_aload_n (i := 0) dX10_bytesTold_10 rfl rfl ?_
    refine bw_iconst (v := 0) dX10_bytesTold_11 (by decide) ?_
    refine bw_puti fp_BentWords_Teller_119 rfl rfl rfl dX10_bytesTold_12 ?_
    refine bw_iload_n (i := 1) dX10_bytesTold_15 rfl rfl ?_
    refine bw_bipush (v := 8) dX10_bytesTold_16 (by decide) ?_
    refine bw_imul dX10_bytesTold_18 ?_
    refine bw_istore_n (i := 2) (L' := [some (.ref 35), some (.int a0), some (.int (a0 * 8)), none]) dX10_bytesTold_19 rfl (Nat.le_of_ble_eq_true rfl) rfl ?_
    refine bw_iload_n (i := 2) dX10_bytesTold_20 rfl rfl ?_
    refine bw_istore_n (i := 3) (L' := [some (.ref 35), some (.int a0), some (.int (a0 * 8)), some (.int (a0 * 8))]) dX10_bytesTold_21 rfl (Nat.le_of_ble_eq_true rfl) rfl ?_
    exact h
  · replace h := h.2 (c)
    refine bw_iconst (v := (-1)) dX10_bytesTold_8 (by decide) ?_
    exact bw_ireturn dX10_bytesTold_9 rfl rfl ⟨_, rfl, h⟩
theorem wfX10_tellsAs_13 {E : bw_E} {d : Nat} {w : bw_W} {Q : Bool → bw_W → Prop} {l1 : Int32} {l3 : Int32} {l4 : Int32}  (h : (vp_in l1 4) ∧
(((l3 + (gw_i w 25 (l1.toNatClampNeg))) ≤ l4 → ((¬ (gw_i w 35 3) = (gw_i w 1 1) → Q false w) ∧ ((gw_i w 35 3) = (gw_i w 1 1) → Q true w))) ∧ (¬ ((l3 + (gw_i w 25 (l1.toNatClampNeg))) ≤ l4) → (∃ Q2 : Bool → bw_W → Prop, bw_rb E (d + 3) mX10_canTellItem [.ref 35, .int l4] w Q2 ∧ ∀ v3 w4, Q2 v3 w4 →
((v3 = true → (∃ Q5 : bw_W → Prop, bw_rv E (d + 3) mX10_putItem [.ref 35, .int l4] w4 Q5 ∧ ∀ w7, Q5 w7 →
(∃ Q8 : Bool → bw_W → Prop, bw_rb E (d + 3) mX10_isLineAs [.ref 35, .ref 1, .int (gw_i w4 35 3)] w7 Q8 ∧ ∀ v9 w10, Q8 v9 w10 →
((v9 = true → bw_G E (d + 4) mX10_tellsAs 13 [some (.ref 35), some (.int l1), some (.ref 1), some (.int l3), some (.int (l4 + 1)), none] [] w10 (bw_qb Q)) ∧ (v9 = false → Q false w10))))) ∧ (v3 = false → Q false w4)))))) : bw_G E (d + 4) mX10_tellsAs 13 [some (.ref 35), some (.int l1), some (.ref 1), some (.int l3), some (.int l4), none] [] w (bw_qb Q) := by
  refine bw_iload dX10_tellsAs_13 rfl ?_
  refine bw_iload_n (i := 3) dX10_tellsAs_15 rfl rfl ?_
  refine bw_aload_n (i := 0) dX10_tellsAs_16 rfl rfl ?_
  refine bw_getr (r := 18) fg_BentWords_Teller_9 rfl rfl dX10_tellsAs_17 ?_
  refine bw_getr (r := 25) fg_BentWords_Teller_53 rfl rfl dX10_tellsAs_20 ?_
  refine bw_iload_n (i := 1) dX10_tellsAs_23 rfl rfl ?_
  obtain ⟨hi1, h⟩ := h
  refine bw_iaload rfl hi1 dX10_tellsAs_24 ?_
  refine bw_iadd dX10_tellsAs_25 ?_
  refine bw_icmp_ge (tgt := 70) dX10_tellsAs_26 (by decide) (fun c => ?_) (fun c => ?_)
  · replace h := h.1 (c)
    refine bw_aload_n (i := 0) dX10_tellsAs_70 rfl rfl ?_
    refine bw_geti fg_BentWords_Teller_119 rfl dX10_tellsAs_71 ?_
    refine bw_aload_n (i := 2) dX10_tellsAs_74 rfl rfl ?_
    refine bw_geti fg_BentWords_Teller_130 rfl dX10_tellsAs_75 ?_
    refine bw_icmp_ne (tgt := 85) dX10_tellsAs_78 (by decide) (fun c => ?_) (fun c => ?_)
    · replace h := h.1 (c)
      refine bw_iconst (v := 0) dX10_tellsAs_85 (by decide) ?_
      exact bw_ireturn dX10_tellsAs_86 rfl (bw_nb false) ⟨false, rfl, h⟩
    · replace h := h.2 (c)
      refine bw_iconst (v := 1) dX10_tellsAs_81 (by decide) ?_
      refine bw_goto (tgt := 86) dX10_tellsAs_82 (by decide) ?_
      exact bw_ireturn dX10_tellsAs_86 rfl (bw_nb true) ⟨true, rfl, h⟩
  · replace h := h.2 (c)
    refine bw_aload_n (i := 0) dX10_tellsAs_29 rfl rfl ?_
    refine bw_iload dX10_tellsAs_30 rfl ?_
    obtain ⟨Q2, hr, h⟩ := h
    refine bw_cVb (As := [.int l4]) (st := []) cv_BentWords_Teller_57 rfl rfl hr rfl rfl (Nat.le_of_ble_eq_true rfl) dX10_tellsAs_32 (fun v3 w4 hv => ?_)
    replace h := h v3 w4 hv
    clear hr
    refine bw_ifb_ne (tgt := 40) dX10_tellsAs_35 (by decide) (fun c => ?_) (fun c => ?_)
    · replace h := h.1 (c)
      refine bw_aload_n (i := 0) dX10_tellsAs_40 rfl rfl ?_
      refine bw_geti fg_BentWords_Teller_119 rfl dX10_tellsAs_41 ?_
      refine bw_istore (i := 5) (L' := [some (.ref 35), some (.int l1), some (.ref 1), some (.int l3), some (.int l4), some (.int (gw_i w4 35 3))]) dX10_tellsAs_44 (Nat.le_of_ble_eq_true rfl) rfl ?_
      refine bw_aload_n (i := 0) dX10_tellsAs_46 rfl rfl ?_
      refine bw_iload dX10_tellsAs_47 rfl ?_
      obtain ⟨Q5, hr, h⟩ := h
      refine bw_cVv (As := [.int l4]) (st := []) cv_BentWords_Teller_122 rfl rfl hr rfl rfl (Nat.le_of_ble_eq_true rfl) dX10_tellsAs_49 (fun w7 hv => ?_)
      replace h := h w7 hv
      clear hr
      refine bw_aload_n (i := 0) dX10_tellsAs_52 rfl rfl ?_
      refine bw_aload_n (i := 2) dX10_tellsAs_53 rfl rfl ?_
      refine bw_iload dX10_tellsAs_54 rfl ?_
      obtain ⟨Q8, hr, h⟩ := h
      refine bw_cVb (As := [.ref 1, .int (gw_i w4 35 3)]) (st := []) cv_BentWords_Teller_126 rfl rfl hr rfl rfl (Nat.le_of_ble_eq_true rfl) dX10_tellsAs_56 (fun v9 w10 hv => ?_)
      replace h := h v9 w10 hv
      clear hr
      refine bw_ifb_ne (tgt := 64) dX10_tellsAs_59 (by decide) (fun c => ?_) (fun c => ?_)
      · replace h := h.1 (c)
        refine bw_iinc (i := 4) (x := l4) (v := (l4 + 1)) (L' := [some (.ref 35), some (.int l1), some (.ref 1), some (.int l3), some (.int (l4 + 1)), some (.int (gw_i w4 35 3))]) dX10_tellsAs_64 rfl rfl (Nat.le_of_ble_eq_true rfl) rfl ?_
        refine bw_goto (tgt := 13) dX10_tellsAs_67 (by decide) ?_
        exact bw_wk [5] rfl h
      · replace h := h.2 (c)
        refine bw_iconst (v := 0) dX10_tellsAs_62 (by decide) ?_
        exact bw_ireturn dX10_tellsAs_63 rfl (bw_nb false) ⟨false, rfl, h⟩
    · replace h := h.2 (c)
      refine bw_iconst (v := 0) dX10_tellsAs_38 (by decide) ?_
      exact bw_ireturn dX10_tellsAs_39 rfl (bw_nb false) ⟨false, rfl, h⟩
theorem wfX10_tellsAs {E : bw_E} {d : Nat} {w : bw_W} {Q : Bool → bw_W → Prop} {a0 : Int32}  (h : bw_G E (d + 4) mX10_tellsAs 13 [some (.ref 35), some (.int a0), some (.ref 1), some (.int (a0 * 8)), some (.int (a0 * 8)), none] [] (sw_i w 35 3 0) (bw_qb Q)) : bw_rb E (d + 4) mX10_tellsAs [.ref 35, .int a0, .ref 1] w Q := by
  refine bw_enter rfl (Nat.le_of_ble_eq_true rfl) ?_
  refine bw_aload_n (i := 0) dX10_tellsAs_0 rfl rfl ?_
  refine bw_iconst (v := 0) dX10_tellsAs_1 (by decide) ?_
  refine bw_puti fp_BentWords_Teller_119 rfl rfl rfl dX10_tellsAs_2 ?_
  refine bw_iload_n (i := 1) dX10_tellsAs_5 rfl rfl ?_
  refine bw_bipush (v := 8) dX10_tellsAs_6 (by decide) ?_
  refine bw_imul dX10_tellsAs_8 ?_
  refine bw_istore_n (i := 3) (L' := [some (.ref 35), some (.int a0), some (.ref 1), some (.int (a0 * 8)), none, none]) dX10_tellsAs_9 rfl (Nat.le_of_ble_eq_true rfl) rfl ?_
  refine bw_iload_n (i := 3) dX10_tellsAs_10 rfl rfl ?_
  refine bw_istore (i := 4) (L' := [some (.ref 35), some (.int a0), some (.ref 1), some (.int (a0 * 8)), some (.int (a0 * 8)), none]) dX10_tellsAs_11 (Nat.le_of_ble_eq_true rfl) rfl ?_
  exact h
theorem wfX10_messagesWithWhy_4 {E : bw_E} {d : Nat} {w : bw_W} {Q : Int32 → bw_W → Prop} {l1 : Int32} {l2 : Int32} {l3 : Int32}  (h : (((gw_i w 18 6) ≤ l3 → Q l2 w) ∧ (¬ ((gw_i w 18 6) ≤ l3) → (∃ Q1 : Bool → bw_W → Prop, bw_rb E (d + 3) mX10_canTell [.ref 35, .int l3] w Q1 ∧ ∀ v2 w3, Q1 v2 w3 →
((v2 = true → bw_G E (d + 4) mX10_messagesWithWhy 4 [some (.ref 35), some (.int l1), some (.int l2), some (.int (l3 + 1))] [] w3 (bw_qi Q)) ∧ (v2 = false → ((¬ (gw_i w3 35 6) = l1 → bw_G E (d + 4) mX10_messagesWithWhy 4 [some (.ref 35), some (.int l1), some (.int l2), some (.int (l3 + 1))] [] w3 (bw_qi Q)) ∧ ((gw_i w3 35 6) = l1 → bw_G E (d + 4) mX10_messagesWithWhy 4 [some (.ref 35), some (.int l1), some (.int (l2 + 1)), some (.int (l3 + 1))] [] w3 (bw_qi Q))))))))) : bw_G E (d + 4) mX10_messagesWithWhy 4 [some (.ref 35), some (.int l1), some (.int l2), some (.int l3)] [] w (bw_qi Q) := by
  refine bw_iload_n (i := 3) dX10_messagesWithWhy_4 rfl rfl ?_
  refine bw_aload_n (i := 0) dX10_messagesWithWhy_5 rfl rfl ?_
  refine bw_getr (r := 18) fg_BentWords_Teller_9 rfl rfl dX10_messagesWithWhy_6 ?_
  refine bw_geti fg_BentWords_Teller_45 rfl dX10_messagesWithWhy_9 ?_
  refine bw_icmp_ge (tgt := 40) dX10_messagesWithWhy_12 (by decide) (fun c => ?_) (fun c => ?_)
  · replace h := h.1 (c)
    refine bw_iload_n (i := 2) dX10_messagesWithWhy_40 rfl rfl ?_
    exact bw_ireturn dX10_messagesWithWhy_41 rfl rfl ⟨_, rfl, h⟩
  · replace h := h.2 (c)
    refine bw_aload_n (i := 0) dX10_messagesWithWhy_15 rfl rfl ?_
    refine bw_iload_n (i := 3) dX10_messagesWithWhy_16 rfl rfl ?_
    obtain ⟨Q1, hr, h⟩ := h
    refine bw_cVb (As := [.int l3]) (st := []) cv_BentWords_Teller_49 rfl rfl hr rfl rfl (Nat.le_of_ble_eq_true rfl) dX10_messagesWithWhy_17 (fun v2 w3 hv => ?_)
    replace h := h v2 w3 hv
    clear hr
    refine bw_ifb_ne (tgt := 34) dX10_messagesWithWhy_20 (by decide) (fun c => ?_) (fun c => ?_)
    · replace h := h.1 (c)
      refine bw_iinc (i := 3) (x := l3) (v := (l3 + 1)) (L' := [some (.ref 35), some (.int l1), some (.int l2), some (.int (l3 + 1))]) dX10_messagesWithWhy_34 rfl rfl (Nat.le_of_ble_eq_true rfl) rfl ?_
      refine bw_goto (tgt := 4) dX10_messagesWithWhy_37 (by decide) ?_
      exact h
    · replace h := h.2 (c)
      refine bw_aload_n (i := 0) dX10_messagesWithWhy_23 rfl rfl ?_
      refine bw_geti fg_BentWords_Teller_66 rfl dX10_messagesWithWhy_24 ?_
      refine bw_iload_n (i := 1) dX10_messagesWithWhy_27 rfl rfl ?_
      refine bw_icmp_ne (tgt := 34) dX10_messagesWithWhy_28 (by decide) (fun c => ?_) (fun c => ?_)
      · replace h := h.1 (c)
        refine bw_iinc (i := 3) (x := l3) (v := (l3 + 1)) (L' := [some (.ref 35), some (.int l1), some (.int l2), some (.int (l3 + 1))]) dX10_messagesWithWhy_34 rfl rfl (Nat.le_of_ble_eq_true rfl) rfl ?_
        refine bw_goto (tgt := 4) dX10_messagesWithWhy_37 (by decide) ?_
        exact h
      · replace h := h.2 (c)
        refine bw_iinc (i := 2) (x := l2) (v := (l2 + 1)) (L' := [some (.ref 35), some (.int l1), some (.int (l2 + 1)), some (.int l3)]) dX10_messagesWithWhy_31 rfl rfl (Nat.le_of_ble_eq_true rfl) rfl ?_
        refine bw_iinc (i := 3) (x := l3) (v := (l3 + 1)) (L' := [some (.ref 35), some (.int l1), some (.int (l2 + 1)), some (.int (l3 + 1))]) dX10_messagesWithWhy_34 rfl rfl (Nat.le_of_ble_eq_true rfl) rfl ?_
        refine bw_goto (tgt := 4) dX10_messagesWithWhy_37 (by decide) ?_
        exact h
theorem wfX10_messagesWithWhy {E : bw_E} {d : Nat} {w : bw_W} {Q : Int32 → bw_W → Prop} {a0 : Int32}  (h : bw_G E (d + 4) mX10_messagesWithWhy 4 [some (.ref 35), some (.int a0), some (.int 0), some (.int 0)] [] w (bw_qi Q)) : bw_ri E (d + 4) mX10_messagesWithWhy [.ref 35, .int a0] w Q := by
  refine bw_enter rfl (Nat.le_of_ble_eq_true rfl) ?_
  refine bw_iconst (v := 0) dX10_messagesWithWhy_0 (by decide) ?_
  refine bw_istore_n (i := 2) (L' := [some (.ref 35), some (.int a0), some (.int 0), none]) dX10_messagesWithWhy_1 rfl (Nat.le_of_ble_eq_true rfl) rfl ?_
  refine bw_iconst (v := 0) dX10_messagesWithWhy_2 (by decide) ?_
  refine bw_istore_n (i := 3) (L' := [some (.ref 35), some (.int a0), some (.int 0), some (.int 0)]) dX10_messagesWithWhy_3 rfl (Nat.le_of_ble_eq_true rfl) rfl ?_
  exact h
theorem wfX11_why {E : bw_E} {d : Nat} {w : bw_W} {Q : Int32 → bw_W → Prop} {a0 : Int32} {a1 : Int32}  (h : ((¬ ((¬ (a0 < 0)) ∧ (¬ ((gw_i w 18 6) ≤ a0))) → Q (-1) w) ∧ ((¬ (a0 < 0)) ∧ (¬ ((gw_i w 18 6) ≤ a0)) → (∃ Q1 : Bool → bw_W → Prop, bw_rb E (d + 3) mX10_canTell [.ref 35, .int a0] w Q1 ∧ ∀ v2 w3, Q1 v2 w3 →
((v2 = false → ((a1 = 0 → Q (gw_i w3 35 4) w3) ∧ (a1 = 1 → Q (gw_i w3 35 5) w3) ∧ (a1 = 2 → Q (gw_i w3 35 6) w3) ∧ (a1.toInt < 0 ∨ 2 < a1.toInt → Q (-1) w3))) ∧ (v2 = true → Q (-1) w3)))))) : bw_ri E (d + 4) mX11_why [.ref 0, .int a0, .int a1] w Q := by
  refine bw_enter rfl (Nat.le_of_ble_eq_true rfl) ?_
  refine bw_aload_n (i := 0) dX11_why_0 rfl rfl ?_
  refine bw_iload_n (i := 1) dX11_why_1 rfl rfl ?_
  refine bw_cVb (As := [.int a0]) (st := []) (Q' := (fun v w1 => (decide ((¬ (a0 < 0)) ∧ (¬ ((gw_i w 18 6) ≤ a0)))) = v ∧ w = w1)) cv_BentWords_235 rfl rfl (fs_X11_hasMessage (d := d + 3) (a0 := a0)  ⟨rfl, rfl⟩) rfl rfl (Nat.le_of_ble_eq_true rfl) dX11_why_2 (fun v w1 hv => ?_)
  obtain ⟨rfl, rfl⟩ := hv
  refine bw_ifb_eq (tgt := 19) dX11_why_5 (by decide) (fun c => ?_) (fun c => ?_)
  · replace h := h.1 (of_decide_eq_false c)
    refine bw_iconst (v := (-1)) dX11_why_19 (by decide) ?_
    exact bw_ireturn dX11_why_20 rfl rfl ⟨_, rfl, h⟩
  · replace h := h.2 (of_decide_eq_true c)
    refine bw_aload_n (i := 0) dX11_why_8 rfl rfl ?_
    refine bw_getr (r := 35) fg_BentWords_70 rfl rfl dX11_why_9 ?_
    refine bw_iload_n (i := 1) dX11_why_12 rfl rfl ?_
    obtain ⟨Q1, hr, h⟩ := h
    refine bw_cVb (As := [.int a0]) (st := []) cv_BentWords_244 rfl rfl hr rfl rfl (Nat.le_of_ble_eq_true rfl) dX11_why_13 (fun v2 w3 hv => ?_)
    replace h := h v2 w3 hv
    clear hr
    refine bw_ifb_eq (tgt := 21) dX11_why_16 (by decide) (fun c => ?_) (fun c => ?_)
    · replace h := h.1 (c)
      refine bw_iload_n (i := 2) dX11_why_21 rfl rfl ?_
      refine bw_tabsw dX11_why_22 [48, 56, 64] 72 (by decide) rfl rfl (fun j hj hx => ?_) (fun hx => ?_)
      · match j, hj, hx with
        | 0, _, hx =>
          replace h := h.1 (bw_ti hx (by decide))
          refine bw_aload_n (i := 0) dX11_why_48 rfl rfl ?_
          refine bw_getr (r := 35) fg_BentWords_70 rfl rfl dX11_why_49 ?_
          refine bw_geti fg_BentWords_254 rfl dX11_why_52 ?_
          exact bw_ireturn dX11_why_55 rfl rfl ⟨_, rfl, h⟩
        | 1, _, hx =>
          replace h := h.2.1 (bw_ti hx (by decide))
          refine bw_aload_n (i := 0) dX11_why_56 rfl rfl ?_
          refine bw_getr (r := 35) fg_BentWords_70 rfl rfl dX11_why_57 ?_
          refine bw_geti fg_BentWords_257 rfl dX11_why_60 ?_
          exact bw_ireturn dX11_why_63 rfl rfl ⟨_, rfl, h⟩
        | 2, _, hx =>
          replace h := h.2.2.1 (bw_ti hx (by decide))
          refine bw_aload_n (i := 0) dX11_why_64 rfl rfl ?_
          refine bw_getr (r := 35) fg_BentWords_70 rfl rfl dX11_why_65 ?_
          refine bw_geti fg_BentWords_260 rfl dX11_why_68 ?_
          exact bw_ireturn dX11_why_71 rfl rfl ⟨_, rfl, h⟩
        | j + 3, hj, _ => exact absurd hj (by simp)
      · replace h := h.2.2.2 hx
        refine bw_iconst (v := (-1)) dX11_why_72 (by decide) ?_
        exact bw_ireturn dX11_why_73 rfl rfl ⟨_, rfl, h⟩
    · replace h := h.2 (c)
      refine bw_iconst (v := (-1)) dX11_why_19 (by decide) ?_
      exact bw_ireturn dX11_why_20 rfl rfl ⟨_, rfl, h⟩
theorem wfX11_missing {E : bw_E} {d : Nat} {w : bw_W} {Q : Int32 → bw_W → Prop} {a0 : Int32} {a1 : Int32} {a2 : Int32}  (h : (((¬ (a0 < 0)) ∧ (¬ ((gw_i w 18 6) ≤ a0)) → ((¬ a1 = (-1) → (∃ Q1 : Int32 → bw_W → Prop, bw_ri E (d + 3) mX10_missingItem [.ref 35, .int a0, .int a1] w Q1 ∧ ∀ v2 w3, Q1 v2 w3 →
((¬ v2 = (-1) → (vp_in v2 32) ∧
(vp_in v2 32) ∧
((a2 = 0 → (((vp_in (48 + (gw_i w3 27 (v2.toNatClampNeg))) 52))) ∧
Q (vX7_nounIn w3 (gw_i w3 27 (v2.toNatClampNeg))) w3) ∧ (a2 = 1 → Q (gw_i w3 28 (v2.toNatClampNeg)) w3) ∧ (a2 = 2 → (((vp_in (48 + (gw_i w3 27 (v2.toNatClampNeg))) 52))) ∧
Q (vX7_numberIn w3 (gw_i w3 27 (v2.toNatClampNeg))) w3) ∧ (a2 = 3 → (((vp_in (48 + (gw_i w3 27 (v2.toNatClampNeg))) 52))) ∧
(((vp_in (48 + (gw_i w3 27 (v2.toNatClampNeg))) 52))) ∧
(∃ Q10 : Int32 → bw_W → Prop, bw_ri E (d + 3) mX7_defaultOf [.ref 31, .int (vX7_nounIn w3 (gw_i w3 27 (v2.toNatClampNeg))), .int (gw_i w3 28 (v2.toNatClampNeg)), .int (vX7_numberIn w3 (gw_i w3 27 (v2.toNatClampNeg)))] w3 Q10 ∧ ∀ v11 w12, Q10 v11 w12 →
Q v11 w12)) ∧ (a2.toInt < 0 ∨ 3 < a2.toInt → Q (-1) w3))) ∧ (v2 = (-1) → Q (-1) w3)))) ∧ (a1 = (-1) → (∃ Q13 : Int32 → bw_W → Prop, bw_ri E (d + 3) mX10_missingOf [.ref 35, .int a0] w Q13 ∧ ∀ v14 w15, Q13 v14 w15 →
Q v14 w15)))) ∧ (¬ ((¬ (a0 < 0)) ∧ (¬ ((gw_i w 18 6) ≤ a0))) → Q (-1) w))) : bw_ri E (d + 4) mX11_missing [.ref 0, .int a0, .int a1, .int a2] w Q := by
  refine bw_enter rfl (Nat.le_of_ble_eq_true rfl) ?_
  refine bw_aload_n (i := 0) dX11_missing_0 rfl rfl ?_
  refine bw_iload_n (i := 1) dX11_missing_1 rfl rfl ?_
  refine bw_cVb (As := [.int a0]) (st := []) (Q' := (fun v w1 => (decide ((¬ (a0 < 0)) ∧ (¬ ((gw_i w 18 6) ≤ a0)))) = v ∧ w = w1)) cv_BentWords_235 rfl rfl (fs_X11_hasMessage (d := d + 3) (a0 := a0)  ⟨rfl, rfl⟩) rfl rfl (Nat.le_of_ble_eq_true rfl) dX11_missing_2 (fun v w1 hv => ?_)
  obtain ⟨rfl, rfl⟩ := hv
  refine bw_ifb_ne (tgt := 10) dX11_missing_5 (by decide) (fun c => ?_) (fun c => ?_)
  · replace h := h.1 (of_decide_eq_true c)
    refine bw_iload_n (i := 2) dX11_missing_10 rfl rfl ?_
    refine bw_iconst (v := (-1)) dX11_missing_11 (by decide) ?_
    refine bw_icmp_ne (tgt := 24) dX11_missing_12 (by decide) (fun c => ?_) (fun c => ?_)
    · replace h := h.1 (c)
      refine bw_aload_n (i := 0) dX11_missing_24 rfl rfl ?_
      refine bw_getr (r := 35) fg_BentWords_70 rfl rfl dX11_missing_25 ?_
      refine bw_iload_n (i := 1) dX11_missing_28 rfl rfl ?_
      refine bw_iload_n (i := 2) dX11_missing_29 rfl rfl ?_
      obtain ⟨Q1, hr, h⟩ := h
      refine bw_cVi (As := [.int a0, .int a1]) (st := []) cv_BentWords_266 rfl rfl hr rfl rfl (Nat.le_of_ble_eq_true rfl) dX11_missing_30 (fun v2 w3 hv => ?_)
      replace h := h v2 w3 hv
      clear hr
      refine bw_istore (i := 4) (L' := [some (.ref 0), some (.int a0), some (.int a1), some (.int a2), some (.int v2), none, none]) dX11_missing_33 (Nat.le_of_ble_eq_true rfl) rfl ?_
      refine bw_iload dX11_missing_35 rfl ?_
      refine bw_iconst (v := (-1)) dX11_missing_37 (by decide) ?_
      refine bw_icmp_ne (tgt := 43) dX11_missing_38 (by decide) (fun c => ?_) (fun c => ?_)
      · replace h := h.1 (c)
        refine bw_aload_n (i := 0) dX11_missing_43 rfl rfl ?_
        refine bw_getr (r := 18) fg_BentWords_44 rfl rfl dX11_missing_44 ?_
        refine bw_getr (r := 27) fg_BentWords_270 rfl rfl dX11_missing_47 ?_
        refine bw_iload dX11_missing_50 rfl ?_
        obtain ⟨hi4, h⟩ := h
        refine bw_iaload rfl hi4 dX11_missing_52 ?_
        refine bw_istore (i := 5) (L' := [some (.ref 0), some (.int a0), some (.int a1), some (.int a2), some (.int v2), some (.int (gw_i w3 27 (v2.toNatClampNeg))), none]) dX11_missing_53 (Nat.le_of_ble_eq_true rfl) rfl ?_
        refine bw_aload_n (i := 0) dX11_missing_55 rfl rfl ?_
        refine bw_getr (r := 18) fg_BentWords_44 rfl rfl dX11_missing_56 ?_
        refine bw_getr (r := 28) fg_BentWords_273 rfl rfl dX11_missing_59 ?_
        refine bw_iload dX11_missing_62 rfl ?_
        obtain ⟨hi5, h⟩ := h
        refine bw_iaload rfl hi5 dX11_missing_64 ?_
        refine bw_istore (i := 6) (L' := [some (.ref 0), some (.int a0), some (.int a1), some (.int a2), some (.int v2), some (.int (gw_i w3 27 (v2.toNatClampNeg))), some (.int (gw_i w3 28 (v2.toNatClampNeg)))]) dX11_missing_65 (Nat.le_of_ble_eq_true rfl) rfl ?_
        refine bw_iload_n (i := 3) dX11_missing_67 rfl rfl ?_
        refine bw_tabsw dX11_missing_68 [100, 110, 113, 123] 151 (by decide) rfl rfl (fun j hj hx => ?_) (fun hx => ?_)
        · match j, hj, hx with
          | 0, _, hx =>
            replace h := h.1 (bw_ti hx (by decide))
            refine bw_aload_n (i := 0) dX11_missing_100 rfl rfl ?_
            refine bw_getr (r := 31) fg_BentWords_58 rfl rfl dX11_missing_101 ?_
            refine bw_iload dX11_missing_104 rfl ?_
            obtain ⟨hc6, h⟩ := h
            refine bw_cVi (As := [.int (gw_i w3 27 (v2.toNatClampNeg))]) (st := []) (Q' := (fun v w1 => (vX7_nounIn w3 (gw_i w3 27 (v2.toNatClampNeg))) = v ∧ w3 = w1)) cv_BentWords_226 rfl rfl (fs_X7_nounIn (d := d + 3) (a0 := (gw_i w3 27 (v2.toNatClampNeg))) hc6 ⟨rfl, rfl⟩) rfl rfl (Nat.le_of_ble_eq_true rfl) dX11_missing_106 (fun v w1 hv => ?_)
            obtain ⟨rfl, rfl⟩ := hv
            exact bw_ireturn dX11_missing_109 rfl rfl ⟨_, rfl, h⟩
          | 1, _, hx =>
            replace h := h.2.1 (bw_ti hx (by decide))
            refine bw_iload dX11_missing_110 rfl ?_
            exact bw_ireturn dX11_missing_112 rfl rfl ⟨_, rfl, h⟩
          | 2, _, hx =>
            replace h := h.2.2.1 (bw_ti hx (by decide))
            refine bw_aload_n (i := 0) dX11_missing_113 rfl rfl ?_
            refine bw_getr (r := 31) fg_BentWords_58 rfl rfl dX11_missing_114 ?_
            refine bw_iload dX11_missing_117 rfl ?_
            obtain ⟨hc7, h⟩ := h
            refine bw_cVi (As := [.int (gw_i w3 27 (v2.toNatClampNeg))]) (st := []) (Q' := (fun v w1 => (vX7_numberIn w3 (gw_i w3 27 (v2.toNatClampNeg))) = v ∧ w3 = w1)) cv_BentWords_232 rfl rfl (fs_X7_numberIn (d := d + 3) (a0 := (gw_i w3 27 (v2.toNatClampNeg))) hc7 ⟨rfl, rfl⟩) rfl rfl (Nat.le_of_ble_eq_true rfl) dX11_missing_119 (fun v w1 hv => ?_)
            obtain ⟨rfl, rfl⟩ := hv
            exact bw_ireturn dX11_missing_122 rfl rfl ⟨_, rfl, h⟩
          | 3, _, hx =>
            replace h := h.2.2.2.1 (bw_ti hx (by decide))
            refine bw_aload_n (i := 0) dX11_missing_123 rfl rfl ?_
            refine bw_getr (r := 31) fg_BentWords_58 rfl rfl dX11_missing_124 ?_
            refine bw_aload_n (i := 0) dX11_missing_127 rfl rfl ?_
            refine bw_getr (r := 31) fg_BentWords_58 rfl rfl dX11_missing_128 ?_
            refine bw_iload dX11_missing_131 rfl ?_
            obtain ⟨hc8, h⟩ := h
            refine bw_cVi (As := [.int (gw_i w3 27 (v2.toNatClampNeg))]) (st := [.ref 31]) (Q' := (fun v w1 => (vX7_nounIn w3 (gw_i w3 27 (v2.toNatClampNeg))) = v ∧ w3 = w1)) cv_BentWords_226 rfl rfl (fs_X7_nounIn (d := d + 3) (a0 := (gw_i w3 27 (v2.toNatClampNeg))) hc8 ⟨rfl, rfl⟩) rfl rfl (Nat.le_of_ble_eq_true rfl) dX11_missing_133 (fun v w1 hv => ?_)
            obtain ⟨rfl, rfl⟩ := hv
            refine bw_iload dX11_missing_136 rfl ?_
            refine bw_aload_n (i := 0) dX11_missing_138 rfl rfl ?_
            refine bw_getr (r := 31) fg_BentWords_58 rfl rfl dX11_missing_139 ?_
            refine bw_iload dX11_missing_142 rfl ?_
            obtain ⟨hc9, h⟩ := h
            refine bw_cVi (As := [.int (gw_i w3 27 (v2.toNatClampNeg))]) (st := [.int (gw_i w3 28 (v2.toNatClampNeg)), .int (vX7_nounIn w3 (gw_i w3 27 (v2.toNatClampNeg))), .ref 31]) (Q' := (fun v w1 => (vX7_numberIn w3 (gw_i w3 27 (v2.toNatClampNeg))) = v ∧ w3 = w1)) cv_BentWords_232 rfl rfl (fs_X7_numberIn (d := d + 3) (a0 := (gw_i w3 27 (v2.toNatClampNeg))) hc9 ⟨rfl, rfl⟩) rfl rfl (Nat.le_of_ble_eq_true rfl) dX11_missing_144 (fun v w1 hv => ?_)
            obtain ⟨rfl, rfl⟩ := hv
            obtain ⟨Q10, hr, h⟩ := h
            refine bw_cVi (As := [.int (vX7_nounIn w3 (gw_i w3 27 (v2.toNatClampNeg))), .int (gw_i w3 28 (v2.toNatClampNeg)), .int (vX7_numberIn w3 (gw_i w3 27 (v2.toNatClampNeg)))]) (st := []) cv_BentWords_212 rfl rfl hr rfl rfl (Nat.le_of_ble_eq_true rfl) dX11_missing_147 (fun v11 w12 hv => ?_)
            replace h := h v11 w12 hv
            clear hr
            exact bw_ireturn dX11_missing_150 rfl rfl ⟨_, rfl, h⟩
          | j + 4, hj, _ => exact absurd hj (by simp)
        · replace h := h.2.2.2.2 hx
          refine bw_iconst (v := (-1)) dX11_missing_151 (by decide) ?_
          exact bw_ireturn dX11_missing_152 rfl rfl ⟨_, rfl, h⟩
      · replace h := h.2 (c)
        refine bw_iconst (v := (-1)) dX11_missing_41 (by decide) ?_
        exact bw_ireturn dX11_missing_42 rfl rfl ⟨_, rfl, h⟩
    · replace h := h.2 (c)
      refine bw_aload_n (i := 0) dX11_missing_15 rfl rfl ?_
      refine bw_getr (r := 35) fg_BentWords_70 rfl rfl dX11_missing_16 ?_
      refine bw_iload_n (i := 1) dX11_missing_19 rfl rfl ?_
      obtain ⟨Q13, hr, h⟩ := h
      refine bw_cVi (As := [.int a0]) (st := []) cv_BentWords_263 rfl rfl hr rfl rfl (Nat.le_of_ble_eq_true rfl) dX11_missing_20 (fun v14 w15 hv => ?_)
      replace h := h v14 w15 hv
      clear hr
      exact bw_ireturn dX11_missing_23 rfl rfl ⟨_, rfl, h⟩
  · replace h := h.2 (of_decide_eq_false c)
    refine bw_iconst (v := (-1)) dX11_missing_8 (by decide) ?_
    exact bw_ireturn dX11_missing_9 rfl rfl ⟨_, rfl, h⟩
theorem wfX11_alike_14 {E : bw_E} {d : Nat} {w : bw_W} {Q : Int32 → bw_W → Prop} {l1 : Int32} {l2 : Int32} {l3 : Int32}  (h : ((8 ≤ l3 → Q l2 w) ∧ (¬ (8 ≤ l3) → (∃ Q1 : Int64 → bw_W → Prop, bw_rl E (d + 3) mX10_formAt [.ref 35, .int l1, .int l3] w Q1 ∧ ∀ v2 w3, Q1 v2 w3 →
(∃ Q4 : Int32 → bw_W → Prop, bw_ri E (d + 3) mX11_slotsOf [.ref 0, .int l1, .long v2] w3 Q4 ∧ ∀ v5 w6, Q4 v5 w6 →
((¬ (v5 &&& (((1 : Int32) <<< (l3 &&& 31)) - 1)) = 0 → bw_G E (d + 4) mX11_alike 14 [some (.ref 0), some (.int l1), some (.int l2), some (.int (l3 + 1)), none] [] w6 (bw_qi Q)) ∧ ((v5 &&& (((1 : Int32) <<< (l3 &&& 31)) - 1)) = 0 → bw_G E (d + 4) mX11_alike 14 [some (.ref 0), some (.int l1), some (.int (l2 + 1)), some (.int (l3 + 1)), none] [] w6 (bw_qi Q)))))))) : bw_G E (d + 4) mX11_alike 14 [some (.ref 0), some (.int l1), some (.int l2), some (.int l3), none] [] w (bw_qi Q) := by
  refine bw_iload_n (i := 3) dX11_alike_14 rfl rfl ?_
  refine bw_bipush (v := 8) dX11_alike_15 (by decide) ?_
  refine bw_icmp_ge (tgt := 56) dX11_alike_17 (by decide) (fun c => ?_) (fun c => ?_)
  · replace h := h.1 (c)
    refine bw_iload_n (i := 2) dX11_alike_56 rfl rfl ?_
    exact bw_ireturn dX11_alike_57 rfl rfl ⟨_, rfl, h⟩
  · replace h := h.2 (c)
    refine bw_iconst (v := 1) dX11_alike_20 (by decide) ?_
    refine bw_iload_n (i := 3) dX11_alike_21 rfl rfl ?_
    refine bw_ishl dX11_alike_22 ?_
    refine bw_iconst (v := 1) dX11_alike_23 (by decide) ?_
    refine bw_isub dX11_alike_24 ?_
    refine bw_istore (i := 4) (L' := [some (.ref 0), some (.int l1), some (.int l2), some (.int l3), some (.int (((1 : Int32) <<< (l3 &&& 31)) - 1))]) dX11_alike_25 (Nat.le_of_ble_eq_true rfl) rfl ?_
    refine bw_aload_n (i := 0) dX11_alike_27 rfl rfl ?_
    refine bw_iload_n (i := 1) dX11_alike_28 rfl rfl ?_
    refine bw_aload_n (i := 0) dX11_alike_29 rfl rfl ?_
    refine bw_getr (r := 35) fg_BentWords_70 rfl rfl dX11_alike_30 ?_
    refine bw_iload_n (i := 1) dX11_alike_33 rfl rfl ?_
    refine bw_iload_n (i := 3) dX11_alike_34 rfl rfl ?_
    obtain ⟨Q1, hr, h⟩ := h
    refine bw_cVl (As := [.int l1, .int l3]) (st := [.int l1, .ref 0]) cv_BentWords_282 rfl rfl hr rfl rfl (Nat.le_of_ble_eq_true rfl) dX11_alike_35 (fun v2 w3 hv => ?_)
    replace h := h v2 w3 hv
    clear hr
    obtain ⟨Q4, hr, h⟩ := h
    refine bw_cVi (As := [.int l1, .long v2]) (st := []) cv_BentWords_286 rfl rfl hr rfl rfl (Nat.le_of_ble_eq_true rfl) dX11_alike_38 (fun v5 w6 hv => ?_)
    replace h := h v5 w6 hv
    clear hr
    refine bw_iload dX11_alike_41 rfl ?_
    refine bw_iand dX11_alike_43 ?_
    refine bw_if_ne (tgt := 50) dX11_alike_44 (by decide) (fun c => ?_) (fun c => ?_)
    · replace h := h.1 (c)
      refine bw_iinc (i := 3) (x := l3) (v := (l3 + 1)) (L' := [some (.ref 0), some (.int l1), some (.int l2), some (.int (l3 + 1)), some (.int (((1 : Int32) <<< (l3 &&& 31)) - 1))]) dX11_alike_50 rfl rfl (Nat.le_of_ble_eq_true rfl) rfl ?_
      refine bw_goto (tgt := 14) dX11_alike_53 (by decide) ?_
      exact bw_wk [4] rfl h
    · replace h := h.2 (c)
      refine bw_iinc (i := 2) (x := l2) (v := (l2 + 1)) (L' := [some (.ref 0), some (.int l1), some (.int (l2 + 1)), some (.int l3), some (.int (((1 : Int32) <<< (l3 &&& 31)) - 1))]) dX11_alike_47 rfl rfl (Nat.le_of_ble_eq_true rfl) rfl ?_
      refine bw_iinc (i := 3) (x := l3) (v := (l3 + 1)) (L' := [some (.ref 0), some (.int l1), some (.int (l2 + 1)), some (.int (l3 + 1)), some (.int (((1 : Int32) <<< (l3 &&& 31)) - 1))]) dX11_alike_50 rfl rfl (Nat.le_of_ble_eq_true rfl) rfl ?_
      refine bw_goto (tgt := 14) dX11_alike_53 (by decide) ?_
      exact bw_wk [4] rfl h
theorem wfX11_alike {E : bw_E} {d : Nat} {w : bw_W} {Q : Int32 → bw_W → Prop} {a0 : Int32}  (h : (((¬ (a0 < 0)) ∧ (¬ ((gw_i w 18 0) ≤ a0)) → bw_G E (d + 4) mX11_alike 14 [some (.ref 0), some (.int a0), some (.int 0), some (.int 0), none] [] w (bw_qi Q)) ∧ (¬ ((¬ (a0 < 0)) ∧ (¬ ((gw_i w 18 0) ≤ a0))) → Q (-1) w))) : bw_ri E (d + 4) mX11_alike [.ref 0, .int a0] w Q := by
  refine bw_enter rfl (Nat.le_of_ble_eq_true rfl) ?_
  refine bw_aload_n (i := 0) dX11_alike_0 rfl rfl ?_
  refine bw_iload_n (i := 1) dX11_alike_1 rfl rfl ?_
  refine bw_cVb (As := [.int a0]) (st := []) (Q' := (fun v w1 => (decide ((¬ (a0 < 0)) ∧ (¬ ((gw_i w 18 0) ≤ a0)))) = v ∧ w = w1)) cv_BentWords_180 rfl rfl (fs_X11_hasNoun (d := d + 3) (a0 := a0)  ⟨rfl, rfl⟩) rfl rfl (Nat.le_of_ble_eq_true rfl) dX11_alike_2 (fun v w1 hv => ?_)
  obtain ⟨rfl, rfl⟩ := hv
  refine bw_ifb_ne (tgt := 10) dX11_alike_5 (by decide) (fun c => ?_) (fun c => ?_)
  · replace h := h.1 (of_decide_eq_true c)
    refine bw_iconst (v := 0) dX11_alike_10 (by decide) ?_
    refine bw_istore_n (i := 2) (L' := [some (.ref 0), some (.int a0), some (.int 0), none, none]) dX11_alike_11 rfl (Nat.le_of_ble_eq_true rfl) rfl ?_
    refine bw_iconst (v := 0) dX11_alike_12 (by decide) ?_
    refine bw_istore_n (i := 3) (L' := [some (.ref 0), some (.int a0), some (.int 0), some (.int 0), none]) dX11_alike_13 rfl (Nat.le_of_ble_eq_true rfl) rfl ?_
    exact h
  · replace h := h.2 (of_decide_eq_false c)
    refine bw_iconst (v := (-1)) dX11_alike_8 (by decide) ?_
    exact bw_ireturn dX11_alike_9 rfl rfl ⟨_, rfl, h⟩
theorem wfX11_canBe {E : bw_E} {d : Nat} {w : bw_W} {Q : Int32 → bw_W → Prop} {a0 : Int32}  (h : (((¬ (a0 < 0)) ∧ (¬ ((gw_i w 18 0) ≤ a0)) → (∃ Q1 : Int64 → bw_W → Prop, bw_rl E (d + 3) mX0_wordAlone [.ref 3] w Q1 ∧ ∀ v2 w3, Q1 v2 w3 →
((¬ v2 = 0 → (∃ Q4 : Int32 → bw_W → Prop, bw_ri E (d + 3) mX11_slotsOf [.ref 0, .int a0, .long v2] w3 Q4 ∧ ∀ v5 w6, Q4 v5 w6 →
Q v5 w6)) ∧ (v2 = 0 → Q 0 w3)))) ∧ (¬ ((¬ (a0 < 0)) ∧ (¬ ((gw_i w 18 0) ≤ a0))) → Q (-1) w))) : bw_ri E (d + 4) mX11_canBe [.ref 0, .int a0] w Q := by
  refine bw_enter rfl (Nat.le_of_ble_eq_true rfl) ?_
  refine bw_aload_n (i := 0) dX11_canBe_0 rfl rfl ?_
  refine bw_iload_n (i := 1) dX11_canBe_1 rfl rfl ?_
  refine bw_cVb (As := [.int a0]) (st := []) (Q' := (fun v w1 => (decide ((¬ (a0 < 0)) ∧ (¬ ((gw_i w 18 0) ≤ a0)))) = v ∧ w = w1)) cv_BentWords_180 rfl rfl (fs_X11_hasNoun (d := d + 3) (a0 := a0)  ⟨rfl, rfl⟩) rfl rfl (Nat.le_of_ble_eq_true rfl) dX11_canBe_2 (fun v w1 hv => ?_)
  obtain ⟨rfl, rfl⟩ := hv
  refine bw_ifb_ne (tgt := 10) dX11_canBe_5 (by decide) (fun c => ?_) (fun c => ?_)
  · replace h := h.1 (of_decide_eq_true c)
    refine bw_aload_n (i := 0) dX11_canBe_10 rfl rfl ?_
    refine bw_getr (r := 3) fg_BentWords_21 rfl rfl dX11_canBe_11 ?_
    obtain ⟨Q1, hr, h⟩ := h
    refine bw_cVl (As := []) (st := []) cv_BentWords_290 rfl rfl hr rfl rfl (Nat.le_of_ble_eq_true rfl) dX11_canBe_14 (fun v2 w3 hv => ?_)
    replace h := h v2 w3 hv
    clear hr
    refine bw_lstore_n (i := 2) (L' := [some (.ref 0), some (.int a0), some (.long v2), none]) dX11_canBe_17 rfl (Nat.le_of_ble_eq_true rfl) rfl ?_
    refine bw_lload_n (i := 2) dX11_canBe_18 rfl rfl ?_
    refine bw_lconst (v := 0) dX11_canBe_19 rfl ?_
    refine bw_lcmp_ne (tgt := 28) dX11_canBe_20 dX11_canBe_21 (by decide) (fun c => ?_) (fun c => ?_)
    · replace h := h.1 (c)
      refine bw_aload_n (i := 0) dX11_canBe_28 rfl rfl ?_
      refine bw_iload_n (i := 1) dX11_canBe_29 rfl rfl ?_
      refine bw_lload_n (i := 2) dX11_canBe_30 rfl rfl ?_
      obtain ⟨Q4, hr, h⟩ := h
      refine bw_cVi (As := [.int a0, .long v2]) (st := []) cv_BentWords_286 rfl rfl hr rfl rfl (Nat.le_of_ble_eq_true rfl) dX11_canBe_31 (fun v5 w6 hv => ?_)
      replace h := h v5 w6 hv
      clear hr
      exact bw_ireturn dX11_canBe_34 rfl rfl ⟨_, rfl, h⟩
    · replace h := h.2 (c)
      refine bw_iconst (v := 0) dX11_canBe_24 (by decide) ?_
      refine bw_goto (tgt := 34) dX11_canBe_25 (by decide) ?_
      exact bw_ireturn dX11_canBe_34 rfl rfl ⟨_, rfl, h⟩
  · replace h := h.2 (of_decide_eq_false c)
    refine bw_iconst (v := (-1)) dX11_canBe_8 (by decide) ?_
    exact bw_ireturn dX11_canBe_9 rfl rfl ⟨_, rfl, h⟩
theorem wfX11_missingOfAll_4 {E : bw_E} {d : Nat} {w : bw_W} {Q : Int32 → bw_W → Prop} {l1 : Int32} {l2 : Int32}  (h : (((gw_i w 18 6) ≤ l2 → Q l1 w) ∧ (¬ ((gw_i w 18 6) ≤ l2) → (∃ Q1 : Int32 → bw_W → Prop, bw_ri E (d + 3) mX10_missingOf [.ref 35, .int l2] w Q1 ∧ ∀ v2 w3, Q1 v2 w3 →
bw_G E (d + 4) mX11_missingOfAll 4 [some (.ref 0), some (.int (l1 + v2)), some (.int (l2 + 1))] [] w3 (bw_qi Q))))) : bw_G E (d + 4) mX11_missingOfAll 4 [some (.ref 0), some (.int l1), some (.int l2)] [] w (bw_qi Q) := by
  refine bw_iload_n (i := 2) dX11_missingOfAll_4 rfl rfl ?_
  refine bw_aload_n (i := 0) dX11_missingOfAll_5 rfl rfl ?_
  refine bw_getr (r := 18) fg_BentWords_44 rfl rfl dX11_missingOfAll_6 ?_
  refine bw_geti fg_BentWords_156 rfl dX11_missingOfAll_9 ?_
  refine bw_icmp_ge (tgt := 32) dX11_missingOfAll_12 (by decide) (fun c => ?_) (fun c => ?_)
  · replace h := h.1 (c)
    refine bw_iload_n (i := 1) dX11_missingOfAll_32 rfl rfl ?_
    exact bw_ireturn dX11_missingOfAll_33 rfl rfl ⟨_, rfl, h⟩
  · replace h := h.2 (c)
    refine bw_iload_n (i := 1) dX11_missingOfAll_15 rfl rfl ?_
    refine bw_aload_n (i := 0) dX11_missingOfAll_16 rfl rfl ?_
    refine bw_getr (r := 35) fg_BentWords_70 rfl rfl dX11_missingOfAll_17 ?_
    refine bw_iload_n (i := 2) dX11_missingOfAll_20 rfl rfl ?_
    obtain ⟨Q1, hr, h⟩ := h
    refine bw_cVi (As := [.int l2]) (st := [.int l1]) cv_BentWords_263 rfl rfl hr rfl rfl (Nat.le_of_ble_eq_true rfl) dX11_missingOfAll_21 (fun v2 w3 hv => ?_)
    replace h := h v2 w3 hv
    clear hr
    refine bw_iadd dX11_missingOfAll_24 ?_
    refine bw_istore_n (i := 1) (L' := [some (.ref 0), some (.int (l1 + v2)), some (.int l2)]) dX11_missingOfAll_25 rfl (Nat.le_of_ble_eq_true rfl) rfl ?_
    refine bw_iinc (i := 2) (x := l2) (v := (l2 + 1)) (L' := [some (.ref 0), some (.int (l1 + v2)), some (.int (l2 + 1))]) dX11_missingOfAll_26 rfl rfl (Nat.le_of_ble_eq_true rfl) rfl ?_
    refine bw_goto (tgt := 4) dX11_missingOfAll_29 (by decide) ?_
    exact h
theorem wfX11_missingOfAll {E : bw_E} {d : Nat} {w : bw_W} {Q : Int32 → bw_W → Prop}   (h : bw_G E (d + 4) mX11_missingOfAll 4 [some (.ref 0), some (.int 0), some (.int 0)] [] w (bw_qi Q)) : bw_ri E (d + 4) mX11_missingOfAll [.ref 0] w Q := by
  refine bw_enter rfl (Nat.le_of_ble_eq_true rfl) ?_
  refine bw_iconst (v := 0) dX11_missingOfAll_0 (by decide) ?_
  refine bw_istore_n (i := 1) (L' := [some (.ref 0), some (.int 0), none]) dX11_missingOfAll_1 rfl (Nat.le_of_ble_eq_true rfl) rfl ?_
  refine bw_iconst (v := 0) dX11_missingOfAll_2 (by decide) ?_
  refine bw_istore_n (i := 2) (L' := [some (.ref 0), some (.int 0), some (.int 0)]) dX11_missingOfAll_3 rfl (Nat.le_of_ble_eq_true rfl) rfl ?_
  exact h
theorem wfX12_digit {E : bw_E} {d : Nat} {w : bw_W} {Q : Int32 → bw_W → Prop} {a0 : Int32}  (h : (∃ Q1 : Int32 → bw_W → Prop, bw_ri E (d + 3) mX12_numberOf [.ref 50, .int 1, .int a0] w Q1 ∧ ∀ v2 w3, Q1 v2 w3 →
Q v2 w3)) : bw_ri E (d + 4) mX12_digit [.ref 50, .int a0] w Q := by
  refine bw_enter rfl (Nat.le_of_ble_eq_true rfl) ?_
  refine bw_aload_n (i := 0) dX12_digit_0 rfl rfl ?_
  refine bw_iconst (v := 1) dX12_digit_1 (by decide) ?_
  refine bw_iload_n (i := 1) dX12_digit_2 rfl rfl ?_
  obtain ⟨Q1, hr, h⟩ := h
  refine bw_cVi (As := [.int 1, .int a0]) (st := []) cv_BentWordsModel_170 rfl rfl hr rfl rfl (Nat.le_of_ble_eq_true rfl) dX12_digit_3 (fun v2 w3 hv => ?_)
  replace h := h v2 w3 hv
  clear hr
  exact bw_ireturn dX12_digit_6 rfl rfl ⟨_, rfl, h⟩
theorem wfX12_tapeWord {E : bw_E} {d : Nat} {w : bw_W} {Q : Int64 → bw_W → Prop}   (h : (∃ Q1 : bw_W → Prop, bw_rv E (d + 3) mX12_next [.ref 50] (sw_i (sw_i w 50 3 0) 50 10 (-1)) Q1 ∧ ∀ w3, Q1 w3 →
(∃ Q4 : Int64 → bw_W → Prop, bw_rl E (d + 3) mX12_anyWord [.ref 50] w3 Q4 ∧ ∀ v5 w6, Q4 v5 w6 →
(∃ Q7 : Int32 → bw_W → Prop, bw_ri E (d + 3) mX12_ends [.ref 50] w6 Q7 ∧ ∀ v8 w9, Q7 v8 w9 →
((¬ v8 = (-1) → Q 0 w9) ∧ (v8 = (-1) → Q v5 w9)))))) : bw_rl E (d + 4) mX12_tapeWord [.ref 50] w Q := by
  refine bw_enter rfl (Nat.le_of_ble_eq_true rfl) ?_
  refine bw_aload_n (i := 0) dX12_tapeWord_0 rfl rfl ?_
  refine bw_iconst (v := 0) dX12_tapeWord_1 (by decide) ?_
  refine bw_puti fp_BentWordsModel_104 rfl rfl rfl dX12_tapeWord_2 ?_
  refine bw_aload_n (i := 0) dX12_tapeWord_5 rfl rfl ?_
  refine bw_iconst (v := (-1)) dX12_tapeWord_6 (by decide) ?_
  refine bw_puti fp_BentWordsModel_150 rfl rfl rfl dX12_tapeWord_7 ?_
  refine bw_aload_n (i := 0) dX12_tapeWord_10 rfl rfl ?_
  obtain ⟨Q1, hr, h⟩ := h
  refine bw_cVv (As := []) (st := []) cv_BentWordsModel_160 rfl rfl hr rfl rfl (Nat.le_of_ble_eq_true rfl) dX12_tapeWord_11 (fun w3 hv => ?_)
  replace h := h w3 hv
  clear hr
  refine bw_aload_n (i := 0) dX12_tapeWord_14 rfl rfl ?_
  obtain ⟨Q4, hr, h⟩ := h
  refine bw_cVl (As := []) (st := []) cv_BentWordsModel_187 rfl rfl hr rfl rfl (Nat.le_of_ble_eq_true rfl) dX12_tapeWord_15 (fun v5 w6 hv => ?_)
  replace h := h v5 w6 hv
  clear hr
  refine bw_lstore_n (i := 1) (L' := [some (.ref 50), some (.long v5), none]) dX12_tapeWord_18 rfl (Nat.le_of_ble_eq_true rfl) rfl ?_
  refine bw_aload_n (i := 0) dX12_tapeWord_19 rfl rfl ?_
  obtain ⟨Q7, hr, h⟩ := h
  refine bw_cVi (As := []) (st := []) cv_BentWordsModel_244 rfl rfl hr rfl rfl (Nat.le_of_ble_eq_true rfl) dX12_tapeWord_20 (fun v8 w9 hv => ?_)
  replace h := h v8 w9 hv
  clear hr
  refine bw_iconst (v := (-1)) dX12_tapeWord_23 (by decide) ?_
  refine bw_icmp_ne (tgt := 31) dX12_tapeWord_24 (by decide) (fun c => ?_) (fun c => ?_)
  · replace h := h.1 (c)
    refine bw_lconst (v := 0) dX12_tapeWord_31 rfl ?_
    exact bw_lreturn dX12_tapeWord_32 rfl ⟨_, rfl, h⟩
  · replace h := h.2 (c)
    refine bw_lload_n (i := 1) dX12_tapeWord_27 rfl rfl ?_
    refine bw_goto (tgt := 32) dX12_tapeWord_28 (by decide) ?_
    exact bw_lreturn dX12_tapeWord_32 rfl ⟨_, rfl, h⟩
theorem wfX12_saysItem {E : bw_E} {d : Nat} {w : bw_W} {Q : bw_W → Prop} {a0 : Int32}  (h : (vp_in (3 * a0) 96) ∧
(vp_in ((3 * a0) + 1) 96) ∧
(vp_in ((3 * a0) + 2) 96) ∧
((¬ (gw_i w 69 ((3 * a0).toNatClampNeg)) = 0 → ((¬ (gw_i w 69 ((3 * a0).toNatClampNeg)) = 4 → ((5 ≤ (gw_i w 69 ((3 * a0).toNatClampNeg)) → Q w) ∧ (¬ (5 ≤ (gw_i w 69 ((3 * a0).toNatClampNeg))) → (((gw_i w 69 ((3 * a0).toNatClampNeg)) = 1 → (((gw_i w 69 ((3 * a0).toNatClampNeg)) = 3 → Q w) ∧ (¬ ((gw_i w 69 ((3 * a0).toNatClampNeg)) = 3) → (((vp_in (1 + (2 * (gw_i w 69 (((3 * a0) + 1).toNatClampNeg)))) 236))) ∧
(((((vp_in ((1 + (2 * (gw_i w 69 (((3 * a0) + 1).toNatClampNeg)))) + 1) 236))))) ∧
(∃ Q6 : Int64 → bw_W → Prop, bw_rl E (d + 3) mX12_formOf [.ref 50, .int (vX12_nounIn w (gw_i w 69 (((3 * a0) + 1).toNatClampNeg))), .int (gw_i w 69 (((3 * a0) + 2).toNatClampNeg)), .int (vX12_numberIn w (gw_i w 69 (((3 * a0) + 1).toNatClampNeg)))] w Q6 ∧ ∀ v7 w8, Q6 v7 w8 →
(∃ Q9 : bw_W → Prop, bw_rv E (d + 3) mX12_saysWord [.ref 50, .long v7] w8 Q9 ∧ ∀ w11, Q9 w11 →
Q w11))))) ∧ (¬ ((gw_i w 69 ((3 * a0).toNatClampNeg)) = 1) → ((¬ (gw_i w 69 ((3 * a0).toNatClampNeg)) = 3 → (((((vp_in ((1 + (2 * (gw_i w 69 (((3 * a0) + 1).toNatClampNeg)))) + 1) 236))))) ∧
(((vp_in (1 + (2 * (gw_i w 69 (((3 * a0) + 1).toNatClampNeg)))) 236))) ∧
(vp_in (vX12_nounIn w (gw_i w 69 (((3 * a0) + 1).toNatClampNeg))) 6) ∧
(((vp_in (vX12_wordAt false (gw_i w 69 (((3 * a0) + 2).toNatClampNeg)) (vX12_numberIn w (gw_i w 69 (((3 * a0) + 1).toNatClampNeg))) (gw_i w 66 ((vX12_nounIn w (gw_i w 69 (((3 * a0) + 1).toNatClampNeg))).toNatClampNeg))) 48))) ∧
((((gw_l w 67 ((vX12_wordAt false (gw_i w 69 (((3 * a0) + 2).toNatClampNeg)) (vX12_numberIn w (gw_i w 69 (((3 * a0) + 1).toNatClampNeg))) (gw_i w 66 ((vX12_nounIn w (gw_i w 69 (((3 * a0) + 1).toNatClampNeg))).toNatClampNeg))).toNatClampNeg)) = 0) → (vp_in (vX12_wordAt false (gw_i w 69 (((3 * a0) + 2).toNatClampNeg)) (vX12_numberIn w (gw_i w 69 (((3 * a0) + 1).toNatClampNeg))) 0) 48))) ∧
(∃ Q17 : bw_W → Prop, bw_rv E (d + 3) mX12_saysWord [.ref 50, .long (vX12_wordOf w false (gw_i w 69 (((3 * a0) + 2).toNatClampNeg)) (vX12_numberIn w (gw_i w 69 (((3 * a0) + 1).toNatClampNeg))) (gw_i w 66 ((vX12_nounIn w (gw_i w 69 (((3 * a0) + 1).toNatClampNeg))).toNatClampNeg)))] w Q17 ∧ ∀ w19, Q17 w19 →
(((gw_i w 69 ((3 * a0).toNatClampNeg)) = 3 → Q w19) ∧ (¬ ((gw_i w 69 ((3 * a0).toNatClampNeg)) = 3) → (((vp_in (1 + (2 * (gw_i w 69 (((3 * a0) + 1).toNatClampNeg)))) 236))) ∧
(((((vp_in ((1 + (2 * (gw_i w 69 (((3 * a0) + 1).toNatClampNeg)))) + 1) 236))))) ∧
(∃ Q22 : Int64 → bw_W → Prop, bw_rl E (d + 3) mX12_formOf [.ref 50, .int (vX12_nounIn w19 (gw_i w 69 (((3 * a0) + 1).toNatClampNeg))), .int (gw_i w 69 (((3 * a0) + 2).toNatClampNeg)), .int (vX12_numberIn w19 (gw_i w 69 (((3 * a0) + 1).toNatClampNeg)))] w19 Q22 ∧ ∀ v23 w24, Q22 v23 w24 →
(∃ Q25 : bw_W → Prop, bw_rv E (d + 3) mX12_saysWord [.ref 50, .long v23] w24 Q25 ∧ ∀ w27, Q25 w27 →
Q w27)))))) ∧ ((gw_i w 69 ((3 * a0).toNatClampNeg)) = 3 → (((((vp_in ((1 + (2 * (gw_i w 69 (((3 * a0) + 1).toNatClampNeg)))) + 1) 236))))) ∧
(((vp_in (1 + (2 * (gw_i w 69 (((3 * a0) + 1).toNatClampNeg)))) 236))) ∧
(vp_in (vX12_nounIn w (gw_i w 69 (((3 * a0) + 1).toNatClampNeg))) 6) ∧
(((vp_in (vX12_wordAt true (gw_i w 69 (((3 * a0) + 2).toNatClampNeg)) (vX12_numberIn w (gw_i w 69 (((3 * a0) + 1).toNatClampNeg))) (gw_i w 66 ((vX12_nounIn w (gw_i w 69 (((3 * a0) + 1).toNatClampNeg))).toNatClampNeg))) 48))) ∧
((((gw_l w 67 ((vX12_wordAt true (gw_i w 69 (((3 * a0) + 2).toNatClampNeg)) (vX12_numberIn w (gw_i w 69 (((3 * a0) + 1).toNatClampNeg))) (gw_i w 66 ((vX12_nounIn w (gw_i w 69 (((3 * a0) + 1).toNatClampNeg))).toNatClampNeg))).toNatClampNeg)) = 0) → (vp_in (vX12_wordAt true (gw_i w 69 (((3 * a0) + 2).toNatClampNeg)) (vX12_numberIn w (gw_i w 69 (((3 * a0) + 1).toNatClampNeg))) 0) 48))) ∧
(∃ Q33 : bw_W → Prop, bw_rv E (d + 3) mX12_saysWord [.ref 50, .long (vX12_wordOf w true (gw_i w 69 (((3 * a0) + 2).toNatClampNeg)) (vX12_numberIn w (gw_i w 69 (((3 * a0) + 1).toNatClampNeg))) (gw_i w 66 ((vX12_nounIn w (gw_i w 69 (((3 * a0) + 1).toNatClampNeg))).toNatClampNeg)))] w Q33 ∧ ∀ w35, Q33 w35 →
(((gw_i w 69 ((3 * a0).toNatClampNeg)) = 3 → Q w35) ∧ (¬ ((gw_i w 69 ((3 * a0).toNatClampNeg)) = 3) → (((vp_in (1 + (2 * (gw_i w 69 (((3 * a0) + 1).toNatClampNeg)))) 236))) ∧
(((((vp_in ((1 + (2 * (gw_i w 69 (((3 * a0) + 1).toNatClampNeg)))) + 1) 236))))) ∧
(∃ Q38 : Int64 → bw_W → Prop, bw_rl E (d + 3) mX12_formOf [.ref 50, .int (vX12_nounIn w35 (gw_i w 69 (((3 * a0) + 1).toNatClampNeg))), .int (gw_i w 69 (((3 * a0) + 2).toNatClampNeg)), .int (vX12_numberIn w35 (gw_i w 69 (((3 * a0) + 1).toNatClampNeg)))] w35 Q38 ∧ ∀ v39 w40, Q38 v39 w40 →
(∃ Q41 : bw_W → Prop, bw_rv E (d + 3) mX12_saysWord [.ref 50, .long v39] w40 Q41 ∧ ∀ w43, Q41 w43 →
Q w43)))))))))))) ∧ ((gw_i w 69 ((3 * a0).toNatClampNeg)) = 4 → (((vp_in ((1 + (2 * (gw_i w 69 (((3 * a0) + 1).toNatClampNeg)))) + 1) 236))) ∧
(∃ Q45 : bw_W → Prop, bw_rv E (d + 3) mX12_saysCount [.ref 50, .int (vX12_countIn w (gw_i w 69 (((3 * a0) + 1).toNatClampNeg)))] w Q45 ∧ ∀ w47, Q45 w47 →
Q w47)))) ∧ ((gw_i w 69 ((3 * a0).toNatClampNeg)) = 0 → (vp_in a0 32) ∧
(∃ Q49 : bw_W → Prop, bw_rv E (d + 3) mX12_saysWord [.ref 50, .long (gw_l w 70 (a0.toNatClampNeg))] w Q49 ∧ ∀ w51, Q49 w51 →
Q w51)))) : bw_rv E (d + 4) mX12_saysItem [.ref 50, .int a0] w Q := by
  refine bw_enter rfl (Nat.le_of_ble_eq_true rfl) ?_
  refine bw_aload_n (i := 0) dX12_saysItem_0 rfl rfl ?_
  refine bw_getr (r := 69) fg_BentWordsModel_65 rfl rfl dX12_saysItem_1 ?_
  refine bw_iconst (v := 3) dX12_saysItem_4 (by decide) ?_
  refine bw_iload_n (i := 1) dX12_saysItem_5 rfl rfl ?_
  refine bw_imul dX12_saysItem_6 ?_
  obtain ⟨hi1, h⟩ := h
  refine bw_iaload rfl hi1 dX12_saysItem_7 ?_
  refine bw_istore_n (i := 2) (L' := [some (.ref 50), some (.int a0), some (.int (gw_i w 69 ((3 * a0).toNatClampNeg))), none, none]) dX12_saysItem_8 rfl (Nat.le_of_ble_eq_true rfl) rfl ?_
  refine bw_aload_n (i := 0) dX12_saysItem_9 rfl rfl ?_
  refine bw_getr (r := 69) fg_BentWordsModel_65 rfl rfl dX12_saysItem_10 ?_
  refine bw_iconst (v := 3) dX12_saysItem_13 (by decide) ?_
  refine bw_iload_n (i := 1) dX12_saysItem_14 rfl rfl ?_
  refine bw_imul dX12_saysItem_15 ?_
  refine bw_iconst (v := 1) dX12_saysItem_16 (by decide) ?_
  refine bw_iadd dX12_saysItem_17 ?_
  obtain ⟨hi2, h⟩ := h
  refine bw_iaload rfl hi2 dX12_saysItem_18 ?_
  refine bw_istore_n (i := 3) (L' := [some (.ref 50), some (.int a0), some (.int (gw_i w 69 ((3 * a0).toNatClampNeg))), some (.int (gw_i w 69 (((3 * a0) + 1).toNatClampNeg))), none]) dX12_saysItem_19 rfl (Nat.le_of_ble_eq_true rfl) rfl ?_
  refine bw_aload_n (i := 0) dX12_saysItem_20 rfl rfl ?_
  refine bw_getr (r := 69) fg_BentWordsModel_65 rfl rfl dX12_saysItem_21 ?_
  refine bw_iconst (v := 3) dX12_saysItem_24 (by decide) ?_
  refine bw_iload_n (i := 1) dX12_saysItem_25 rfl rfl ?_
  refine bw_imul dX12_saysItem_26 ?_
  refine bw_iconst (v := 2) dX12_saysItem_27 (by decide) ?_
  refine bw_iadd dX12_saysItem_28 ?_
  obtain ⟨hi3, h⟩ := h
  refine bw_iaload rfl hi3 dX12_saysItem_29 ?_
  refine bw_istore (i := 4) (L' := [some (.ref 50), some (.int a0), some (.int (gw_i w 69 ((3 * a0).toNatClampNeg))), some (.int (gw_i w 69 (((3 * a0) + 1).toNatClampNeg))), some (.int (gw_i w 69 (((3 * a0) + 2).toNatClampNeg)))]) dX12_saysItem_30 (Nat.le_of_ble_eq_true rfl) rfl ?_
  refine bw_iload_n (i := 2) dX12_saysItem_32 rfl rfl ?_
  refine bw_if_ne (tgt := 49) dX12_saysItem_33 (by decide) (fun c => ?_) (fun c => ?_)
  · replace h := h.1 (c)
    refine bw_iload_n (i := 2) dX12_saysItem_49 rfl rfl ?_
    refine bw_iconst (v := 4) dX12_saysItem_50 (by decide) ?_
    refine bw_icmp_ne (tgt := 66) dX12_saysItem_51 (by decide) (fun c => ?_) (fun c => ?_)
    · replace h := h.1 (c)
      refine bw_iload_n (i := 2) dX12_saysItem_66 rfl rfl ?_
      refine bw_iconst (v := 5) dX12_saysItem_67 (by decide) ?_
      refine bw_icmp_ge (tgt := 136) dX12_saysItem_68 (by decide) (fun c => ?_) (fun c => ?_)
      · replace h := h.1 (c)
        exact bw_return dX12_saysItem_136 rfl ⟨rfl, h⟩
      · replace h := h.2 (c)
        refine bw_iload_n (i := 2) dX12_saysItem_71 rfl rfl ?_
        refine bw_iconst (v := 1) dX12_saysItem_72 (by decide) ?_
        refine bw_icmp_eq (tgt := 111) dX12_saysItem_73 (by decide) (fun c => ?_) (fun c => ?_)
        · replace h := h.1 (c)
          refine bw_iload_n (i := 2) dX12_saysItem_111 rfl rfl ?_
          refine bw_iconst (v := 3) dX12_saysItem_112 (by decide) ?_
          refine bw_icmp_eq (tgt := 136) dX12_saysItem_113 (by decide) (fun c => ?_) (fun c => ?_)
          · replace h := h.1 (c)
            exact bw_return dX12_saysItem_136 rfl ⟨rfl, h⟩
          · replace h := h.2 (c)
            refine bw_aload_n (i := 0) dX12_saysItem_116 rfl rfl ?_
            refine bw_aload_n (i := 0) dX12_saysItem_117 rfl rfl ?_
            refine bw_aload_n (i := 0) dX12_saysItem_118 rfl rfl ?_
            refine bw_iload_n (i := 3) dX12_saysItem_119 rfl rfl ?_
            obtain ⟨hc4, h⟩ := h
            refine bw_cVi (As := [.int (gw_i w 69 (((3 * a0) + 1).toNatClampNeg))]) (st := [.ref 50, .ref 50]) (Q' := (fun v w1 => (vX12_nounIn w (gw_i w 69 (((3 * a0) + 1).toNatClampNeg))) = v ∧ w = w1)) cv_BentWordsModel_330 rfl rfl (fs_X12_nounIn (d := d + 3) (a0 := (gw_i w 69 (((3 * a0) + 1).toNatClampNeg))) hc4 ⟨rfl, rfl⟩) rfl rfl (Nat.le_of_ble_eq_true rfl) dX12_saysItem_120 (fun v w1 hv => ?_)
            obtain ⟨rfl, rfl⟩ := hv
            refine bw_iload dX12_saysItem_123 rfl ?_
            refine bw_aload_n (i := 0) dX12_saysItem_125 rfl rfl ?_
            refine bw_iload_n (i := 3) dX12_saysItem_126 rfl rfl ?_
            obtain ⟨hc5, h⟩ := h
            refine bw_cVi (As := [.int (gw_i w 69 (((3 * a0) + 1).toNatClampNeg))]) (st := [.int (gw_i w 69 (((3 * a0) + 2).toNatClampNeg)), .int (vX12_nounIn w (gw_i w 69 (((3 * a0) + 1).toNatClampNeg))), .ref 50, .ref 50]) (Q' := (fun v w1 => (vX12_numberIn w (gw_i w 69 (((3 * a0) + 1).toNatClampNeg))) = v ∧ w = w1)) cv_BentWordsModel_333 rfl rfl (fs_X12_numberIn (d := d + 2) (a0 := (gw_i w 69 (((3 * a0) + 1).toNatClampNeg))) hc5 ⟨rfl, rfl⟩) rfl rfl (Nat.le_of_ble_eq_true rfl) dX12_saysItem_127 (fun v w1 hv => ?_)
            obtain ⟨rfl, rfl⟩ := hv
            obtain ⟨Q6, hr, h⟩ := h
            refine bw_cVl (As := [.int (vX12_nounIn w (gw_i w 69 (((3 * a0) + 1).toNatClampNeg))), .int (gw_i w 69 (((3 * a0) + 2).toNatClampNeg)), .int (vX12_numberIn w (gw_i w 69 (((3 * a0) + 1).toNatClampNeg)))]) (st := [.ref 50]) cv_BentWordsModel_351 rfl rfl hr rfl rfl (Nat.le_of_ble_eq_true rfl) dX12_saysItem_130 (fun v7 w8 hv => ?_)
            replace h := h v7 w8 hv
            clear hr
            obtain ⟨Q9, hr, h⟩ := h
            refine bw_cVv (As := [.long v7]) (st := []) cv_BentWordsModel_340 rfl rfl hr rfl rfl (Nat.le_of_ble_eq_true rfl) dX12_saysItem_133 (fun w11 hv => ?_)
            replace h := h w11 hv
            clear hr
            exact bw_return dX12_saysItem_136 rfl ⟨rfl, h⟩
        · replace h := h.2 (c)
          refine bw_aload_n (i := 0) dX12_saysItem_76 rfl rfl ?_
          refine bw_aload_n (i := 0) dX12_saysItem_77 rfl rfl ?_
          refine bw_iload_n (i := 2) dX12_saysItem_78 rfl rfl ?_
          refine bw_iconst (v := 3) dX12_saysItem_79 (by decide) ?_
          refine bw_icmp_ne (tgt := 87) dX12_saysItem_80 (by decide) (fun c => ?_) (fun c => ?_)
          · replace h := h.1 (c)
            refine bw_iconst (v := 0) dX12_saysItem_87 (by decide) ?_
            refine bw_iload dX12_saysItem_88 rfl ?_
            refine bw_aload_n (i := 0) dX12_saysItem_90 rfl rfl ?_
            refine bw_iload_n (i := 3) dX12_saysItem_91 rfl rfl ?_
            obtain ⟨hc12, h⟩ := h
            refine bw_cVi (As := [.int (gw_i w 69 (((3 * a0) + 1).toNatClampNeg))]) (st := [.int (gw_i w 69 (((3 * a0) + 2).toNatClampNeg)), .int 0, .ref 50, .ref 50]) (Q' := (fun v w1 => (vX12_numberIn w (gw_i w 69 (((3 * a0) + 1).toNatClampNeg))) = v ∧ w = w1)) cv_BentWordsModel_333 rfl rfl (fs_X12_numberIn (d := d + 2) (a0 := (gw_i w 69 (((3 * a0) + 1).toNatClampNeg))) hc12 ⟨rfl, rfl⟩) rfl rfl (Nat.le_of_ble_eq_true rfl) dX12_saysItem_92 (fun v w1 hv => ?_)
            obtain ⟨rfl, rfl⟩ := hv
            refine bw_aload_n (i := 0) dX12_saysItem_95 rfl rfl ?_
            refine bw_getr (r := 66) fg_BentWordsModel_56 rfl rfl dX12_saysItem_96 ?_
            refine bw_aload_n (i := 0) dX12_saysItem_99 rfl rfl ?_
            refine bw_iload_n (i := 3) dX12_saysItem_100 rfl rfl ?_
            obtain ⟨hc13, h⟩ := h
            refine bw_cVi (As := [.int (gw_i w 69 (((3 * a0) + 1).toNatClampNeg))]) (st := [.ref 66, .int (vX12_numberIn w (gw_i w 69 (((3 * a0) + 1).toNatClampNeg))), .int (gw_i w 69 (((3 * a0) + 2).toNatClampNeg)), .int 0, .ref 50, .ref 50]) (Q' := (fun v w1 => (vX12_nounIn w (gw_i w 69 (((3 * a0) + 1).toNatClampNeg))) = v ∧ w = w1)) cv_BentWordsModel_330 rfl rfl (fs_X12_nounIn (d := d + 3) (a0 := (gw_i w 69 (((3 * a0) + 1).toNatClampNeg))) hc13 ⟨rfl, rfl⟩) rfl rfl (Nat.le_of_ble_eq_true rfl) dX12_saysItem_101 (fun v w1 hv => ?_)
            obtain ⟨rfl, rfl⟩ := hv
            obtain ⟨hi14, h⟩ := h
            refine bw_iaload rfl hi14 dX12_saysItem_104 ?_
            obtain ⟨hc15, h⟩ := h
            obtain ⟨hc16, h⟩ := h
            refine bw_cVl (As := [.int 0, .int (gw_i w 69 (((3 * a0) + 2).toNatClampNeg)), .int (vX12_numberIn w (gw_i w 69 (((3 * a0) + 1).toNatClampNeg))), .int (gw_i w 66 ((vX12_nounIn w (gw_i w 69 (((3 * a0) + 1).toNatClampNeg))).toNatClampNeg))]) (st := [.ref 50]) (Q' := (fun v w1 => (vX12_wordOf w false (gw_i w 69 (((3 * a0) + 2).toNatClampNeg)) (vX12_numberIn w (gw_i w 69 (((3 * a0) + 1).toNatClampNeg))) (gw_i w 66 ((vX12_nounIn w (gw_i w 69 (((3 * a0) + 1).toNatClampNeg))).toNatClampNeg))) = v ∧ w = w1)) cv_BentWordsModel_347 rfl rfl (fs_X12_wordOf (d := d + 1) (a0 := false) (a1 := (gw_i w 69 (((3 * a0) + 2).toNatClampNeg))) (a2 := (vX12_numberIn w (gw_i w 69 (((3 * a0) + 1).toNatClampNeg)))) (a3 := (gw_i w 66 ((vX12_nounIn w (gw_i w 69 (((3 * a0) + 1).toNatClampNeg))).toNatClampNeg))) hc15 hc16 ⟨rfl, rfl⟩) rfl rfl (Nat.le_of_ble_eq_true rfl) dX12_saysItem_105 (fun v w1 hv => ?_)
            obtain ⟨rfl, rfl⟩ := hv
            obtain ⟨Q17, hr, h⟩ := h
            refine bw_cVv (As := [.long (vX12_wordOf w false (gw_i w 69 (((3 * a0) + 2).toNatClampNeg)) (vX12_numberIn w (gw_i w 69 (((3 * a0) + 1).toNatClampNeg))) (gw_i w 66 ((vX12_nounIn w (gw_i w 69 (((3 * a0) + 1).toNatClampNeg))).toNatClampNeg)))]) (st := []) cv_BentWordsModel_340 rfl rfl hr rfl rfl (Nat.le_of_ble_eq_true rfl) dX12_saysItem_108 (fun w19 hv => ?_)
            replace h := h w19 hv
            clear hr
            refine bw_iload_n (i := 2) dX12_saysItem_111 rfl rfl ?_
            refine bw_iconst (v := 3) dX12_saysItem_112 (by decide) ?_
            refine bw_icmp_eq (tgt := 136) dX12_saysItem_113 (by decide) (fun c => ?_) (fun c => ?_)
            · replace h := h.1 (c)
              exact bw_return dX12_saysItem_136 rfl ⟨rfl, h⟩
            · replace h := h.2 (c)
              refine bw_aload_n (i := 0) dX12_saysItem_116 rfl rfl ?_
              refine bw_aload_n (i := 0) dX12_saysItem_117 rfl rfl ?_
              refine bw_aload_n (i := 0) dX12_saysItem_118 rfl rfl ?_
              refine bw_iload_n (i := 3) dX12_saysItem_119 rfl rfl ?_
              obtain ⟨hc20, h⟩ := h
              refine bw_cVi (As := [.int (gw_i w 69 (((3 * a0) + 1).toNatClampNeg))]) (st := [.ref 50, .ref 50]) (Q' := (fun v w1 => (vX12_nounIn w19 (gw_i w 69 (((3 * a0) + 1).toNatClampNeg))) = v ∧ w19 = w1)) cv_BentWordsModel_330 rfl rfl (fs_X12_nounIn (d := d + 3) (a0 := (gw_i w 69 (((3 * a0) + 1).toNatClampNeg))) hc20 ⟨rfl, rfl⟩) rfl rfl (Nat.le_of_ble_eq_true rfl) dX12_saysItem_120 (fun v w1 hv => ?_)
              obtain ⟨rfl, rfl⟩ := hv
              refine bw_iload dX12_saysItem_123 rfl ?_
              refine bw_aload_n (i := 0) dX12_saysItem_125 rfl rfl ?_
              refine bw_iload_n (i := 3) dX12_saysItem_126 rfl rfl ?_
              obtain ⟨hc21, h⟩ := h
              refine bw_cVi (As := [.int (gw_i w 69 (((3 * a0) + 1).toNatClampNeg))]) (st := [.int (gw_i w 69 (((3 * a0) + 2).toNatClampNeg)), .int (vX12_nounIn w19 (gw_i w 69 (((3 * a0) + 1).toNatClampNeg))), .ref 50, .ref 50]) (Q' := (fun v w1 => (vX12_numberIn w19 (gw_i w 69 (((3 * a0) + 1).toNatClampNeg))) = v ∧ w19 = w1)) cv_BentWordsModel_333 rfl rfl (fs_X12_numberIn (d := d + 2) (a0 := (gw_i w 69 (((3 * a0) + 1).toNatClampNeg))) hc21 ⟨rfl, rfl⟩) rfl rfl (Nat.le_of_ble_eq_true rfl) dX12_saysItem_127 (fun v w1 hv => ?_)
              obtain ⟨rfl, rfl⟩ := hv
              obtain ⟨Q22, hr, h⟩ := h
              refine bw_cVl (As := [.int (vX12_nounIn w19 (gw_i w 69 (((3 * a0) + 1).toNatClampNeg))), .int (gw_i w 69 (((3 * a0) + 2).toNatClampNeg)), .int (vX12_numberIn w19 (gw_i w 69 (((3 * a0) + 1).toNatClampNeg)))]) (st := [.ref 50]) cv_BentWordsModel_351 rfl rfl hr rfl rfl (Nat.le_of_ble_eq_true rfl) dX12_saysItem_130 (fun v23 w24 hv => ?_)
              replace h := h v23 w24 hv
              clear hr
              obtain ⟨Q25, hr, h⟩ := h
              refine bw_cVv (As := [.long v23]) (st := []) cv_BentWordsModel_340 rfl rfl hr rfl rfl (Nat.le_of_ble_eq_true rfl) dX12_saysItem_133 (fun w27 hv => ?_)
              replace h := h w27 hv
              clear hr
              exact bw_return dX12_saysItem_136 rfl ⟨rfl, h⟩
          · replace h := h.2 (c)
            refine bw_iconst (v := 1) dX12_saysItem_83 (by decide) ?_
            refine bw_goto (tgt := 88) dX12_saysItem_84 (by decide) ?_
            refine bw_iload dX12_saysItem_88 rfl ?_
            refine bw_aload_n (i := 0) dX12_saysItem_90 rfl rfl ?_
            refine bw_iload_n (i := 3) dX12_saysItem_91 rfl rfl ?_
            obtain ⟨hc28, h⟩ := h
            refine bw_cVi (As := [.int (gw_i w 69 (((3 * a0) + 1).toNatClampNeg))]) (st := [.int (gw_i w 69 (((3 * a0) + 2).toNatClampNeg)), .int 1, .ref 50, .ref 50]) (Q' := (fun v w1 => (vX12_numberIn w (gw_i w 69 (((3 * a0) + 1).toNatClampNeg))) = v ∧ w = w1)) cv_BentWordsModel_333 rfl rfl (fs_X12_numberIn (d := d + 2) (a0 := (gw_i w 69 (((3 * a0) + 1).toNatClampNeg))) hc28 ⟨rfl, rfl⟩) rfl rfl (Nat.le_of_ble_eq_true rfl) dX12_saysItem_92 (fun v w1 hv => ?_)
            obtain ⟨rfl, rfl⟩ := hv
            refine bw_aload_n (i := 0) dX12_saysItem_95 rfl rfl ?_
            refine bw_getr (r := 66) fg_BentWordsModel_56 rfl rfl dX12_saysItem_96 ?_
            refine bw_aload_n (i := 0) dX12_saysItem_99 rfl rfl ?_
            refine bw_iload_n (i := 3) dX12_saysItem_100 rfl rfl ?_
            obtain ⟨hc29, h⟩ := h
            refine bw_cVi (As := [.int (gw_i w 69 (((3 * a0) + 1).toNatClampNeg))]) (st := [.ref 66, .int (vX12_numberIn w (gw_i w 69 (((3 * a0) + 1).toNatClampNeg))), .int (gw_i w 69 (((3 * a0) + 2).toNatClampNeg)), .int 1, .ref 50, .ref 50]) (Q' := (fun v w1 => (vX12_nounIn w (gw_i w 69 (((3 * a0) + 1).toNatClampNeg))) = v ∧ w = w1)) cv_BentWordsModel_330 rfl rfl (fs_X12_nounIn (d := d + 3) (a0 := (gw_i w 69 (((3 * a0) + 1).toNatClampNeg))) hc29 ⟨rfl, rfl⟩) rfl rfl (Nat.le_of_ble_eq_true rfl) dX12_saysItem_101 (fun v w1 hv => ?_)
            obtain ⟨rfl, rfl⟩ := hv
            obtain ⟨hi30, h⟩ := h
            refine bw_iaload rfl hi30 dX12_saysItem_104 ?_
            obtain ⟨hc31, h⟩ := h
            obtain ⟨hc32, h⟩ := h
            refine bw_cVl (As := [.int 1, .int (gw_i w 69 (((3 * a0) + 2).toNatClampNeg)), .int (vX12_numberIn w (gw_i w 69 (((3 * a0) + 1).toNatClampNeg))), .int (gw_i w 66 ((vX12_nounIn w (gw_i w 69 (((3 * a0) + 1).toNatClampNeg))).toNatClampNeg))]) (st := [.ref 50]) (Q' := (fun v w1 => (vX12_wordOf w true (gw_i w 69 (((3 * a0) + 2).toNatClampNeg)) (vX12_numberIn w (gw_i w 69 (((3 * a0) + 1).toNatClampNeg))) (gw_i w 66 ((vX12_nounIn w (gw_i w 69 (((3 * a0) + 1).toNatClampNeg))).toNatClampNeg))) = v ∧ w = w1)) cv_BentWordsModel_347 rfl rfl (fs_X12_wordOf (d := d + 1) (a0 := true) (a1 := (gw_i w 69 (((3 * a0) + 2).toNatClampNeg))) (a2 := (vX12_numberIn w (gw_i w 69 (((3 * a0) + 1).toNatClampNeg)))) (a3 := (gw_i w 66 ((vX12_nounIn w (gw_i w 69 (((3 * a0) + 1).toNatClampNeg))).toNatClampNeg))) hc31 hc32 ⟨rfl, rfl⟩) rfl rfl (Nat.le_of_ble_eq_true rfl) dX12_saysItem_105 (fun v w1 hv => ?_)
            obtain ⟨rfl, rfl⟩ := hv
            obtain ⟨Q33, hr, h⟩ := h
            refine bw_cVv (As := [.long (vX12_wordOf w true (gw_i w 69 (((3 * a0) + 2).toNatClampNeg)) (vX12_numberIn w (gw_i w 69 (((3 * a0) + 1).toNatClampNeg))) (gw_i w 66 ((vX12_nounIn w (gw_i w 69 (((3 * a0) + 1).toNatClampNeg))).toNatClampNeg)))]) (st := []) cv_BentWordsModel_340 rfl rfl hr rfl rfl (Nat.le_of_ble_eq_true rfl) dX12_saysItem_108 (fun w35 hv => ?_)
            replace h := h w35 hv
            clear hr
            refine bw_iload_n (i := 2) dX12_saysItem_111 rfl rfl ?_
            refine bw_iconst (v := 3) dX12_saysItem_112 (by decide) ?_
            refine bw_icmp_eq (tgt := 136) dX12_saysItem_113 (by decide) (fun c => ?_) (fun c => ?_)
            · replace h := h.1 (c)
              exact bw_return dX12_saysItem_136 rfl ⟨rfl, h⟩
            · replace h := h.2 (c)
              refine bw_aload_n (i := 0) dX12_saysItem_116 rfl rfl ?_
              refine bw_aload_n (i := 0) dX12_saysItem_117 rfl rfl ?_
              refine bw_aload_n (i := 0) dX12_saysItem_118 rfl rfl ?_
              refine bw_iload_n (i := 3) dX12_saysItem_119 rfl rfl ?_
              obtain ⟨hc36, h⟩ := h
              refine bw_cVi (As := [.int (gw_i w 69 (((3 * a0) + 1).toNatClampNeg))]) (st := [.ref 50, .ref 50]) (Q' := (fun v w1 => (vX12_nounIn w35 (gw_i w 69 (((3 * a0) + 1).toNatClampNeg))) = v ∧ w35 = w1)) cv_BentWordsModel_330 rfl rfl (fs_X12_nounIn (d := d + 3) (a0 := (gw_i w 69 (((3 * a0) + 1).toNatClampNeg))) hc36 ⟨rfl, rfl⟩) rfl rfl (Nat.le_of_ble_eq_true rfl) dX12_saysItem_120 (fun v w1 hv => ?_)
              obtain ⟨rfl, rfl⟩ := hv
              refine bw_iload dX12_saysItem_123 rfl ?_
              refine bw_aload_n (i := 0) dX12_saysItem_125 rfl rfl ?_
              refine bw_iload_n (i := 3) dX12_saysItem_126 rfl rfl ?_
              obtain ⟨hc37, h⟩ := h
              refine bw_cVi (As := [.int (gw_i w 69 (((3 * a0) + 1).toNatClampNeg))]) (st := [.int (gw_i w 69 (((3 * a0) + 2).toNatClampNeg)), .int (vX12_nounIn w35 (gw_i w 69 (((3 * a0) + 1).toNatClampNeg))), .ref 50, .ref 50]) (Q' := (fun v w1 => (vX12_numberIn w35 (gw_i w 69 (((3 * a0) + 1).toNatClampNeg))) = v ∧ w35 = w1)) cv_BentWordsModel_333 rfl rfl (fs_X12_numberIn (d := d + 2) (a0 := (gw_i w 69 (((3 * a0) + 1).toNatClampNeg))) hc37 ⟨rfl, rfl⟩) rfl rfl (Nat.le_of_ble_eq_true rfl) dX12_saysItem_127 (fun v w1 hv => ?_)
              obtain ⟨rfl, rfl⟩ := hv
              obtain ⟨Q38, hr, h⟩ := h
              refine bw_cVl (As := [.int (vX12_nounIn w35 (gw_i w 69 (((3 * a0) + 1).toNatClampNeg))), .int (gw_i w 69 (((3 * a0) + 2).toNatClampNeg)), .int (vX12_numberIn w35 (gw_i w 69 (((3 * a0) + 1).toNatClampNeg)))]) (st := [.ref 50]) cv_BentWordsModel_351 rfl rfl hr rfl rfl (Nat.le_of_ble_eq_true rfl) dX12_saysItem_130 (fun v39 w40 hv => ?_)
              replace h := h v39 w40 hv
              clear hr
              obtain ⟨Q41, hr, h⟩ := h
              refine bw_cVv (As := [.long v39]) (st := []) cv_BentWordsModel_340 rfl rfl hr rfl rfl (Nat.le_of_ble_eq_true rfl) dX12_saysItem_133 (fun w43 hv => ?_)
              replace h := h w43 hv
              clear hr
              exact bw_return dX12_saysItem_136 rfl ⟨rfl, h⟩
    · replace h := h.2 (c)
      refine bw_aload_n (i := 0) dX12_saysItem_54 rfl rfl ?_
      refine bw_aload_n (i := 0) dX12_saysItem_55 rfl rfl ?_
      refine bw_iload_n (i := 3) dX12_saysItem_56 rfl rfl ?_
      obtain ⟨hc44, h⟩ := h
      refine bw_cVi (As := [.int (gw_i w 69 (((3 * a0) + 1).toNatClampNeg))]) (st := [.ref 50]) (Q' := (fun v w1 => (vX12_countIn w (gw_i w 69 (((3 * a0) + 1).toNatClampNeg))) = v ∧ w = w1)) cv_BentWordsModel_278 rfl rfl (fs_X12_countIn (d := d + 3) (a0 := (gw_i w 69 (((3 * a0) + 1).toNatClampNeg))) hc44 ⟨rfl, rfl⟩) rfl rfl (Nat.le_of_ble_eq_true rfl) dX12_saysItem_57 (fun v w1 hv => ?_)
      obtain ⟨rfl, rfl⟩ := hv
      obtain ⟨Q45, hr, h⟩ := h
      refine bw_cVv (As := [.int (vX12_countIn w (gw_i w 69 (((3 * a0) + 1).toNatClampNeg)))]) (st := []) cv_BentWordsModel_344 rfl rfl hr rfl rfl (Nat.le_of_ble_eq_true rfl) dX12_saysItem_60 (fun w47 hv => ?_)
      replace h := h w47 hv
      clear hr
      refine bw_goto (tgt := 136) dX12_saysItem_63 (by decide) ?_
      exact bw_return dX12_saysItem_136 rfl ⟨rfl, h⟩
  · replace h := h.2 (c)
    refine bw_aload_n (i := 0) dX12_saysItem_36 rfl rfl ?_
    refine bw_aload_n (i := 0) dX12_saysItem_37 rfl rfl ?_
    refine bw_getr (r := 70) fg_BentWordsModel_68 rfl rfl dX12_saysItem_38 ?_
    refine bw_iload_n (i := 1) dX12_saysItem_41 rfl rfl ?_
    obtain ⟨hi48, h⟩ := h
    refine bw_laload rfl hi48 dX12_saysItem_42 ?_
    obtain ⟨Q49, hr, h⟩ := h
    refine bw_cVv (As := [.long (gw_l w 70 (a0.toNatClampNeg))]) (st := []) cv_BentWordsModel_340 rfl rfl hr rfl rfl (Nat.le_of_ble_eq_true rfl) dX12_saysItem_43 (fun w51 hv => ?_)
    replace h := h w51 hv
    clear hr
    refine bw_goto (tgt := 136) dX12_saysItem_46 (by decide) ?_
    exact bw_return dX12_saysItem_136 rfl ⟨rfl, h⟩
theorem wfX12_form {E : bw_E} {d : Nat} {w : bw_W} {Q : Int32 → bw_W → Prop} {a0 : Int32} {a1 : Int32} {a2 : Int32} {a3 : Int32}  (h : ((¬ ((¬ (a0 < 0)) ∧ (¬ (((gw_i w 50 34) - 1) < a0))) → Q (-1) w) ∧ ((¬ (a0 < 0)) ∧ (¬ (((gw_i w 50 34) - 1) < a0)) → ((¬ (((¬ (a1 < 0)) ∧ (¬ (3 < a1))) ∧ ((¬ (a2 < 0)) ∧ (¬ (1 < a2)))) → Q (-1) w) ∧ (((¬ (a1 < 0)) ∧ (¬ (3 < a1))) ∧ ((¬ (a2 < 0)) ∧ (¬ (1 < a2))) → (∃ Q1 : Int64 → bw_W → Prop, bw_rl E (d + 3) mX12_formOf [.ref 50, .int a0, .int a1, .int a2] w Q1 ∧ ∀ v2 w3, Q1 v2 w3 →
(∃ Q4 : Int32 → bw_W → Prop, bw_ri E (d + 3) mX12_letter [.long v2, .int a3] w3 Q4 ∧ ∀ v5 w6, Q4 v5 w6 →
Q v5 w6))))))) : bw_ri E (d + 4) mX12_form [.ref 50, .int a0, .int a1, .int a2, .int a3] w Q := by
  refine bw_enter rfl (Nat.le_of_ble_eq_true rfl) ?_
  refine bw_aload_n (i := 0) dX12_form_0 rfl rfl ?_
  refine bw_iload_n (i := 1) dX12_form_1 rfl rfl ?_
  refine bw_cVb (As := [.int a0]) (st := []) (Q' := (fun v w1 => (decide ((¬ (a0 < 0)) ∧ (¬ (((gw_i w 50 34) - 1) < a0)))) = v ∧ w = w1)) cv_BentWordsModel_376 rfl rfl (fs_X12_isNoun (d := d + 2) (a0 := a0)  ⟨rfl, rfl⟩) rfl rfl (Nat.le_of_ble_eq_true rfl) dX12_form_2 (fun v w1 hv => ?_)
  obtain ⟨rfl, rfl⟩ := hv
  refine bw_ifb_eq (tgt := 31) dX12_form_5 (by decide) (fun c => ?_) (fun c => ?_)
  · replace h := h.1 (of_decide_eq_false c)
    refine bw_iconst (v := (-1)) dX12_form_31 (by decide) ?_
    exact bw_ireturn dX12_form_32 rfl rfl ⟨_, rfl, h⟩
  · replace h := h.2 (of_decide_eq_true c)
    refine bw_iload_n (i := 2) dX12_form_8 rfl rfl ?_
    refine bw_iload_n (i := 3) dX12_form_9 rfl rfl ?_
    refine bw_cSb (As := [.int a1, .int a2]) (st := []) (Q' := (fun v w1 => (decide (((¬ (a1 < 0)) ∧ (¬ (3 < a1))) ∧ ((¬ (a2 < 0)) ∧ (¬ (1 < a2))))) = v ∧ w = w1)) cs_BentWordsModel_382 (fs_X12_isForm (d := d + 2) (a0 := a1) (a1 := a2)  ⟨rfl, rfl⟩) rfl rfl (Nat.le_of_ble_eq_true rfl) dX12_form_10 (fun v w1 hv => ?_)
    obtain ⟨rfl, rfl⟩ := hv
    refine bw_ifb_eq (tgt := 31) dX12_form_13 (by decide) (fun c => ?_) (fun c => ?_)
    · replace h := h.1 (of_decide_eq_false c)
      refine bw_iconst (v := (-1)) dX12_form_31 (by decide) ?_
      exact bw_ireturn dX12_form_32 rfl rfl ⟨_, rfl, h⟩
    · replace h := h.2 (of_decide_eq_true c)
      refine bw_aload_n (i := 0) dX12_form_16 rfl rfl ?_
      refine bw_iload_n (i := 1) dX12_form_17 rfl rfl ?_
      refine bw_iload_n (i := 2) dX12_form_18 rfl rfl ?_
      refine bw_iload_n (i := 3) dX12_form_19 rfl rfl ?_
      obtain ⟨Q1, hr, h⟩ := h
      refine bw_cVl (As := [.int a0, .int a1, .int a2]) (st := []) cv_BentWordsModel_351 rfl rfl hr rfl rfl (Nat.le_of_ble_eq_true rfl) dX12_form_20 (fun v2 w3 hv => ?_)
      replace h := h v2 w3 hv
      clear hr
      refine bw_iload dX12_form_23 rfl ?_
      obtain ⟨Q4, hr, h⟩ := h
      refine bw_cSi (As := [.long v2, .int a3]) (st := []) cs_BentWordsModel_450 hr rfl rfl (Nat.le_of_ble_eq_true rfl) dX12_form_25 (fun v5 w6 hv => ?_)
      replace h := h v5 w6 hv
      clear hr
      refine bw_goto (tgt := 32) dX12_form_28 (by decide) ?_
      exact bw_ireturn dX12_form_32 rfl rfl ⟨_, rfl, h⟩
theorem wfX12_missingOf_4 {E : bw_E} {d : Nat} {w : bw_W} {Q : Int32 → bw_W → Prop} {l1 : Int32} {l2 : Int32} {l3 : Int32}  (h : (vp_in l1 4) ∧
(((gw_i w 68 (l1.toNatClampNeg)) ≤ l3 → Q l2 w) ∧ (¬ ((gw_i w 68 (l1.toNatClampNeg)) ≤ l3) → (∃ Q2 : Int32 → bw_W → Prop, bw_ri E (d + 3) mX12_missingAt [.ref 50, .int ((8 * l1) + l3)] w Q2 ∧ ∀ v3 w4, Q2 v3 w4 →
((v3 ≤ 0 → bw_G E (d + 4) mX12_missingOf 4 [some (.ref 50), some (.int l1), some (.int (l2 + 0)), some (.int (l3 + 1))] [] w4 (bw_qi Q)) ∧ (¬ (v3 ≤ 0) → bw_G E (d + 4) mX12_missingOf 4 [some (.ref 50), some (.int l1), some (.int (l2 + 1)), some (.int (l3 + 1))] [] w4 (bw_qi Q))))))) : bw_G E (d + 4) mX12_missingOf 4 [some (.ref 50), some (.int l1), some (.int l2), some (.int l3)] [] w (bw_qi Q) := by
  refine bw_iload_n (i := 3) dX12_missingOf_4 rfl rfl ?_
  refine bw_aload_n (i := 0) dX12_missingOf_5 rfl rfl ?_
  refine bw_getr (r := 68) fg_BentWordsModel_62 rfl rfl dX12_missingOf_6 ?_
  refine bw_iload_n (i := 1) dX12_missingOf_9 rfl rfl ?_
  obtain ⟨hi1, h⟩ := h
  refine bw_iaload rfl hi1 dX12_missingOf_10 ?_
  refine bw_icmp_ge (tgt := 41) dX12_missingOf_11 (by decide) (fun c => ?_) (fun c => ?_)
  · replace h := h.1 (c)
    refine bw_iload_n (i := 2) dX12_missingOf_41 rfl rfl ?_
    exact bw_ireturn dX12_missingOf_42 rfl rfl ⟨_, rfl, h⟩
  · replace h := h.2 (c)
    refine bw_iload_n (i := 2) dX12_missingOf_14 rfl rfl ?_
    refine bw_aload_n (i := 0) dX12_missingOf_15 rfl rfl ?_
    refine bw_bipush (v := 8) dX12_missingOf_16 (by decide) ?_
    refine bw_iload_n (i := 1) dX12_missingOf_18 rfl rfl ?_
    refine bw_imul dX12_missingOf_19 ?_
    refine bw_iload_n (i := 3) dX12_missingOf_20 rfl rfl ?_
    refine bw_iadd dX12_missingOf_21 ?_
    obtain ⟨Q2, hr, h⟩ := h
    refine bw_cVi (As := [.int ((8 * l1) + l3)]) (st := [.int l2]) cv_BentWordsModel_462 rfl rfl hr rfl rfl (Nat.le_of_ble_eq_true rfl) dX12_missingOf_22 (fun v3 w4 hv => ?_)
    replace h := h v3 w4 hv
    clear hr
    refine bw_if_le (tgt := 32) dX12_missingOf_25 (by decide) (fun c => ?_) (fun c => ?_)
    · replace h := h.1 (c)
      refine bw_iconst (v := 0) dX12_missingOf_32 (by decide) ?_
      refine bw_iadd dX12_missingOf_33 ?_
      refine bw_istore_n (i := 2) (L' := [some (.ref 50), some (.int l1), some (.int (l2 + 0)), some (.int l3)]) dX12_missingOf_34 rfl (Nat.le_of_ble_eq_true rfl) rfl ?_
      refine bw_iinc (i := 3) (x := l3) (v := (l3 + 1)) (L' := [some (.ref 50), some (.int l1), some (.int (l2 + 0)), some (.int (l3 + 1))]) dX12_missingOf_35 rfl rfl (Nat.le_of_ble_eq_true rfl) rfl ?_
      refine bw_goto (tgt := 4) dX12_missingOf_38 (by decide) ?_
      exact h
    · replace h := h.2 (c)
      refine bw_iconst (v := 1) dX12_missingOf_28 (by decide) ?_
      refine bw_goto (tgt := 33) dX12_missingOf_29 (by decide) ?_
      refine bw_iadd dX12_missingOf_33 ?_
      refine bw_istore_n (i := 2) (L' := [some (.ref 50), some (.int l1), some (.int (l2 + 1)), some (.int l3)]) dX12_missingOf_34 rfl (Nat.le_of_ble_eq_true rfl) rfl ?_
      refine bw_iinc (i := 3) (x := l3) (v := (l3 + 1)) (L' := [some (.ref 50), some (.int l1), some (.int (l2 + 1)), some (.int (l3 + 1))]) dX12_missingOf_35 rfl rfl (Nat.le_of_ble_eq_true rfl) rfl ?_
      refine bw_goto (tgt := 4) dX12_missingOf_38 (by decide) ?_
      exact h
theorem wfX12_missingOf {E : bw_E} {d : Nat} {w : bw_W} {Q : Int32 → bw_W → Prop} {a0 : Int32}  (h : bw_G E (d + 4) mX12_missingOf 4 [some (.ref 50), some (.int a0), some (.int 0), some (.int 0)] [] w (bw_qi Q)) : bw_ri E (d + 4) mX12_missingOf [.ref 50, .int a0] w Q := by
  refine bw_enter rfl (Nat.le_of_ble_eq_true rfl) ?_
  refine bw_iconst (v := 0) dX12_missingOf_0 (by decide) ?_
  refine bw_istore_n (i := 2) (L' := [some (.ref 50), some (.int a0), some (.int 0), none]) dX12_missingOf_1 rfl (Nat.le_of_ble_eq_true rfl) rfl ?_
  refine bw_iconst (v := 0) dX12_missingOf_2 (by decide) ?_
  refine bw_istore_n (i := 3) (L' := [some (.ref 50), some (.int a0), some (.int 0), some (.int 0)]) dX12_missingOf_3 rfl (Nat.le_of_ble_eq_true rfl) rfl ?_
  exact h
