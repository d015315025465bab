theorem wfX10_boundWordIn {E : bw_E} {d : Nat} {w : bw_W} {Q : Int64 → bw_W → Prop} {a0 : Int32}  (h : (vp_in a0 32) ∧
(((vp_in (48 + (gw_i w 27 (a0.toNatClampNeg))) 52))) ∧
(vp_in (vX7_nounIn w (gw_i w 27 (a0.toNatClampNeg))) 6) ∧
(vp_in a0 32) ∧
((¬ (gw_i w 26 (a0.toNatClampNeg)) = 37 → (vp_in a0 32) ∧
(((vp_in (48 + (gw_i w 27 (a0.toNatClampNeg))) 52))) ∧
(((vp_in (((((gw_i w 28 (a0.toNatClampNeg)) * 2) + (vX7_numberIn w (gw_i w 27 (a0.toNatClampNeg)))) * 3) + (gw_i w 20 ((vX7_nounIn w (gw_i w 27 (a0.toNatClampNeg))).toNatClampNeg))) 24))) ∧
((((gw_l w 22 ((((((gw_i w 28 (a0.toNatClampNeg)) * 2) + (vX7_numberIn w (gw_i w 27 (a0.toNatClampNeg)))) * 3) + (gw_i w 20 ((vX7_nounIn w (gw_i w 27 (a0.toNatClampNeg))).toNatClampNeg))).toNatClampNeg)) = 0) → (vp_in (((((gw_i w 28 (a0.toNatClampNeg)) * 2) + (vX7_numberIn w (gw_i w 27 (a0.toNatClampNeg)))) * 3) + 0) 24))) ∧
Q (vX3_boundWord w 22 (gw_i w 28 (a0.toNatClampNeg)) (vX7_numberIn w (gw_i w 27 (a0.toNatClampNeg))) (gw_i w 20 ((vX7_nounIn w (gw_i w 27 (a0.toNatClampNeg))).toNatClampNeg))) w) ∧ ((gw_i w 26 (a0.toNatClampNeg)) = 37 → (vp_in a0 32) ∧
(((vp_in (48 + (gw_i w 27 (a0.toNatClampNeg))) 52))) ∧
(((vp_in (((((gw_i w 28 (a0.toNatClampNeg)) * 2) + (vX7_numberIn w (gw_i w 27 (a0.toNatClampNeg)))) * 3) + (gw_i w 20 ((vX7_nounIn w (gw_i w 27 (a0.toNatClampNeg))).toNatClampNeg))) 24))) ∧
((((gw_l w 23 ((((((gw_i w 28 (a0.toNatClampNeg)) * 2) + (vX7_numberIn w (gw_i w 27 (a0.toNatClampNeg)))) * 3) + (gw_i w 20 ((vX7_nounIn w (gw_i w 27 (a0.toNatClampNeg))).toNatClampNeg))).toNatClampNeg)) = 0) → (vp_in (((((gw_i w 28 (a0.toNatClampNeg)) * 2) + (vX7_numberIn w (gw_i w 27 (a0.toNatClampNeg)))) * 3) + 0) 24))) ∧
Q (vX3_boundWord w 23 (gw_i w 28 (a0.toNatClampNeg)) (vX7_numberIn w (gw_i w 27 (a0.toNatClampNeg))) (gw_i w 20 ((vX7_nounIn w (gw_i w 27 (a0.toNatClampNeg))).toNatClampNeg))) w))) : bw_rl E (d + 2) mX10_boundWordIn [.ref 35, .int a0] w Q := by
  refine bw_enter rfl (Nat.le_of_ble_eq_true rfl) ?_
  refine bw_aload_n (i := 0) dX10_boundWordIn_0 rfl rfl ?_
  refine bw_getr (r := 18) fg_BentWords_Teller_9 rfl rfl dX10_boundWordIn_1 ?_
  refine bw_getr (r := 27) fg_BentWords_Teller_72 rfl rfl dX10_boundWordIn_4 ?_
  refine bw_iload_n (i := 1) dX10_boundWordIn_7 rfl rfl ?_
  obtain ⟨hi1, h⟩ := h
  refine bw_iaload rfl hi1 dX10_boundWordIn_8 ?_
  refine bw_istore_n (i := 2) (L' := [some (.ref 35), some (.int a0), some (.int (gw_i w 27 (a0.toNatClampNeg))), none, none]) dX10_boundWordIn_9 rfl (Nat.le_of_ble_eq_true rfl) rfl ?_
  refine bw_aload_n (i := 0) dX10_boundWordIn_10 rfl rfl ?_
  refine bw_getr (r := 18) fg_BentWords_Teller_9 rfl rfl dX10_boundWordIn_11 ?_
  refine bw_getr (r := 20) fg_BentWords_Teller_100 rfl rfl dX10_boundWordIn_14 ?_
  refine bw_aload_n (i := 0) dX10_boundWordIn_17 rfl rfl ?_
  refine bw_getr (r := 31) fg_BentWords_Teller_15 rfl rfl dX10_boundWordIn_18 ?_
  refine bw_iload_n (i := 2) dX10_boundWordIn_21 rfl rfl ?_
  obtain ⟨hc2, h⟩ := h
  refine bw_cVi (As := [.int (gw_i w 27 (a0.toNatClampNeg))]) (st := [.ref 20]) (Q' := (fun v w1 => (vX7_nounIn w (gw_i w 27 (a0.toNatClampNeg))) = v ∧ w = w1)) cv_BentWords_Teller_103 rfl rfl (fs_X7_nounIn (d := d + 1) (a0 := (gw_i w 27 (a0.toNatClampNeg))) hc2 ⟨rfl, rfl⟩) rfl rfl (Nat.le_of_ble_eq_true rfl) dX10_boundWordIn_22 (fun v w1 hv => ?_)
  obtain ⟨rfl, rfl⟩ := hv
  obtain ⟨hi3, h⟩ := h
  refine bw_iaload rfl hi3 dX10_boundWordIn_25 ?_
  refine bw_istore_n (i := 3) (L' := [some (.ref 35), some (.int a0), some (.int (gw_i w 27 (a0.toNatClampNeg))), some (.int (gw_i w 20 ((vX7_nounIn w (gw_i w 27 (a0.toNatClampNeg))).toNatClampNeg))), none]) dX10_boundWordIn_26 rfl (Nat.le_of_ble_eq_true rfl) rfl ?_
  refine bw_aload_n (i := 0) dX10_boundWordIn_27 rfl rfl ?_
  refine bw_getr (r := 18) fg_BentWords_Teller_9 rfl rfl dX10_boundWordIn_28 ?_
  refine bw_getr (r := 26) fg_BentWords_Teller_69 rfl rfl dX10_boundWordIn_31 ?_
  refine bw_iload_n (i := 1) dX10_boundWordIn_34 rfl rfl ?_
  obtain ⟨hi4, h⟩ := h
  refine bw_caload rfl hi4 dX10_boundWordIn_35 ?_
  refine bw_bipush (v := 37) dX10_boundWordIn_36 (by decide) ?_
  refine bw_icmp_ne (tgt := 51) dX10_boundWordIn_38 (by decide) (fun c => ?_) (fun c => ?_)
  · replace h := h.1 (c)
    refine bw_aload_n (i := 0) dX10_boundWordIn_51 rfl rfl ?_
    refine bw_getr (r := 18) fg_BentWords_Teller_9 rfl rfl dX10_boundWordIn_52 ?_
    refine bw_getr (r := 22) fg_BentWords_Teller_109 rfl rfl dX10_boundWordIn_55 ?_
    refine bw_astore (i := 4) (L' := [some (.ref 35), some (.int a0), some (.int (gw_i w 27 (a0.toNatClampNeg))), some (.int (gw_i w 20 ((vX7_nounIn w (gw_i w 27 (a0.toNatClampNeg))).toNatClampNeg))), some (.ref 22)]) dX10_boundWordIn_58 (Nat.le_of_ble_eq_true rfl) rfl ?_
    refine bw_aload dX10_boundWordIn_60 rfl ?_
    refine bw_aload_n (i := 0) dX10_boundWordIn_62 rfl rfl ?_
    refine bw_getr (r := 18) fg_BentWords_Teller_9 rfl rfl dX10_boundWordIn_63 ?_
    refine bw_getr (r := 28) fg_BentWords_Teller_82 rfl rfl dX10_boundWordIn_66 ?_
    refine bw_iload_n (i := 1) dX10_boundWordIn_69 rfl rfl ?_
    obtain ⟨hi5, h⟩ := h
    refine bw_iaload rfl hi5 dX10_boundWordIn_70 ?_
    refine bw_aload_n (i := 0) dX10_boundWordIn_71 rfl rfl ?_
    refine bw_getr (r := 31) fg_BentWords_Teller_15 rfl rfl dX10_boundWordIn_72 ?_
    refine bw_iload_n (i := 2) dX10_boundWordIn_75 rfl rfl ?_
    obtain ⟨hc6, h⟩ := h
    refine bw_cVi (As := [.int (gw_i w 27 (a0.toNatClampNeg))]) (st := [.int (gw_i w 28 (a0.toNatClampNeg)), .ref 22]) (Q' := (fun v w1 => (vX7_numberIn w (gw_i w 27 (a0.toNatClampNeg))) = v ∧ w = w1)) cv_BentWords_Teller_96 rfl rfl (fs_X7_numberIn (d := d + 1) (a0 := (gw_i w 27 (a0.toNatClampNeg))) hc6 ⟨rfl, rfl⟩) rfl rfl (Nat.le_of_ble_eq_true rfl) dX10_boundWordIn_76 (fun v w1 hv => ?_)
    obtain ⟨rfl, rfl⟩ := hv
    refine bw_iload_n (i := 3) dX10_boundWordIn_79 rfl rfl ?_
    obtain ⟨hc7, h⟩ := h
    obtain ⟨hc8, h⟩ := h
    refine bw_cSl (As := [.ref 22, .int (gw_i w 28 (a0.toNatClampNeg)), .int (vX7_numberIn w (gw_i w 27 (a0.toNatClampNeg))), .int (gw_i w 20 ((vX7_nounIn w (gw_i w 27 (a0.toNatClampNeg))).toNatClampNeg))]) (st := []) (Q' := (fun v w1 => (vX3_boundWord w 22 (gw_i w 28 (a0.toNatClampNeg)) (vX7_numberIn w (gw_i w 27 (a0.toNatClampNeg))) (gw_i w 20 ((vX7_nounIn w (gw_i w 27 (a0.toNatClampNeg))).toNatClampNeg))) = v ∧ w = w1)) cs_BentWords_Teller_115 (fs_X3_boundWord (d := d + 0) (a1 := (gw_i w 28 (a0.toNatClampNeg))) (a2 := (vX7_numberIn w (gw_i w 27 (a0.toNatClampNeg)))) (a3 := (gw_i w 20 ((vX7_nounIn w (gw_i w 27 (a0.toNatClampNeg))).toNatClampNeg))) rfl hc7 hc8 ⟨rfl, rfl⟩) rfl rfl (Nat.le_of_ble_eq_true rfl) dX10_boundWordIn_80 (fun v w1 hv => ?_)
    obtain ⟨rfl, rfl⟩ := hv
    exact bw_lreturn dX10_boundWordIn_83 rfl ⟨_, rfl, h⟩
  · replace h := h.2 (c)
    refine bw_aload_n (i := 0) dX10_boundWordIn_41 rfl rfl ?_
    refine bw_getr (r := 18) fg_BentWords_Teller_9 rfl rfl dX10_boundWordIn_42 ?_
    refine bw_getr (r := 23) fg_BentWords_Teller_106 rfl rfl dX10_boundWordIn_45 ?_
    refine bw_goto (tgt := 58) dX10_boundWordIn_48 (by decide) ?_
    refine bw_astore (i := 4) (L' := [some (.ref 35), some (.int a0), some (.int (gw_i w 27 (a0.toNatClampNeg))), some (.int (gw_i w 20 ((vX7_nounIn w (gw_i w 27 (a0.toNatClampNeg))).toNatClampNeg))), some (.ref 23)]) dX10_boundWordIn_58 (Nat.le_of_ble_eq_true rfl) rfl ?_
    refine bw_aload dX10_boundWordIn_60 rfl ?_
    refine bw_aload_n (i := 0) dX10_boundWordIn_62 rfl rfl ?_
    refine bw_getr (r := 18) fg_BentWords_Teller_9 rfl rfl dX10_boundWordIn_63 ?_
    refine bw_getr (r := 28) fg_BentWords_Teller_82 rfl rfl dX10_boundWordIn_66 ?_
    refine bw_iload_n (i := 1) dX10_boundWordIn_69 rfl rfl ?_
    obtain ⟨hi9, h⟩ := h
    refine bw_iaload rfl hi9 dX10_boundWordIn_70 ?_
    refine bw_aload_n (i := 0) dX10_boundWordIn_71 rfl rfl ?_
    refine bw_getr (r := 31) fg_BentWords_Teller_15 rfl rfl dX10_boundWordIn_72 ?_
    refine bw_iload_n (i := 2) dX10_boundWordIn_75 rfl rfl ?_
    obtain ⟨hc10, h⟩ := h
    refine bw_cVi (As := [.int (gw_i w 27 (a0.toNatClampNeg))]) (st := [.int (gw_i w 28 (a0.toNatClampNeg)), .ref 23]) (Q' := (fun v w1 => (vX7_numberIn w (gw_i w 27 (a0.toNatClampNeg))) = v ∧ w = w1)) cv_BentWords_Teller_96 rfl rfl (fs_X7_numberIn (d := d + 1) (a0 := (gw_i w 27 (a0.toNatClampNeg))) hc10 ⟨rfl, rfl⟩) rfl rfl (Nat.le_of_ble_eq_true rfl) dX10_boundWordIn_76 (fun v w1 hv => ?_)
    obtain ⟨rfl, rfl⟩ := hv
    refine bw_iload_n (i := 3) dX10_boundWordIn_79 rfl rfl ?_
    obtain ⟨hc11, h⟩ := h
    obtain ⟨hc12, h⟩ := h
    refine bw_cSl (As := [.ref 23, .int (gw_i w 28 (a0.toNatClampNeg)), .int (vX7_numberIn w (gw_i w 27 (a0.toNatClampNeg))), .int (gw_i w 20 ((vX7_nounIn w (gw_i w 27 (a0.toNatClampNeg))).toNatClampNeg))]) (st := []) (Q' := (fun v w1 => (vX3_boundWord w 23 (gw_i w 28 (a0.toNatClampNeg)) (vX7_numberIn w (gw_i w 27 (a0.toNatClampNeg))) (gw_i w 20 ((vX7_nounIn w (gw_i w 27 (a0.toNatClampNeg))).toNatClampNeg))) = v ∧ w = w1)) cs_BentWords_Teller_115 (fs_X3_boundWord (d := d + 0) (a1 := (gw_i w 28 (a0.toNatClampNeg))) (a2 := (vX7_numberIn w (gw_i w 27 (a0.toNatClampNeg)))) (a3 := (gw_i w 20 ((vX7_nounIn w (gw_i w 27 (a0.toNatClampNeg))).toNatClampNeg))) rfl hc11 hc12 ⟨rfl, rfl⟩) rfl rfl (Nat.le_of_ble_eq_true rfl) dX10_boundWordIn_80 (fun v w1 hv => ?_)
    obtain ⟨rfl, rfl⟩ := hv
    exact bw_lreturn dX10_boundWordIn_83 rfl ⟨_, rfl, h⟩
theorem wfX10_formIn {E : bw_E} {d : Nat} {w : bw_W} {Q : Int64 → bw_W → Prop} {a0 : Int32}  (h : (vp_in a0 32) ∧
(((vp_in (48 + (gw_i w 27 (a0.toNatClampNeg))) 52))) ∧
(vp_in a0 32) ∧
(((vp_in (48 + (gw_i w 27 (a0.toNatClampNeg))) 52))) ∧
(∃ Q5 : Int64 → bw_W → Prop, bw_rl E (d + 1) mX10_formOf [.ref 35, .int (vX7_nounIn w (gw_i w 27 (a0.toNatClampNeg))), .int (gw_i w 28 (a0.toNatClampNeg)), .int (vX7_numberIn w (gw_i w 27 (a0.toNatClampNeg)))] w Q5 ∧ ∀ v6 w7, Q5 v6 w7 →
Q v6 w7)) : bw_rl E (d + 2) mX10_formIn [.ref 35, .int a0] w Q := by
  refine bw_enter rfl (Nat.le_of_ble_eq_true rfl) ?_
  refine bw_aload_n (i := 0) dX10_formIn_0 rfl rfl ?_
  refine bw_getr (r := 18) fg_BentWords_Teller_9 rfl rfl dX10_formIn_1 ?_
  refine bw_getr (r := 27) fg_BentWords_Teller_72 rfl rfl dX10_formIn_4 ?_
  refine bw_iload_n (i := 1) dX10_formIn_7 rfl rfl ?_
  obtain ⟨hi1, h⟩ := h
  refine bw_iaload rfl hi1 dX10_formIn_8 ?_
  refine bw_istore_n (i := 2) (L' := [some (.ref 35), some (.int a0), some (.int (gw_i w 27 (a0.toNatClampNeg)))]) dX10_formIn_9 rfl (Nat.le_of_ble_eq_true rfl) rfl ?_
  refine bw_aload_n (i := 0) dX10_formIn_10 rfl rfl ?_
  refine bw_aload_n (i := 0) dX10_formIn_11 rfl rfl ?_
  refine bw_getr (r := 31) fg_BentWords_Teller_15 rfl rfl dX10_formIn_12 ?_
  refine bw_iload_n (i := 2) dX10_formIn_15 rfl rfl ?_
  obtain ⟨hc2, h⟩ := h
  refine bw_cVi (As := [.int (gw_i w 27 (a0.toNatClampNeg))]) (st := [.ref 35]) (Q' := (fun v w1 => (vX7_nounIn w (gw_i w 27 (a0.toNatClampNeg))) = v ∧ w = w1)) cv_BentWords_Teller_103 rfl rfl (fs_X7_nounIn (d := d + 1) (a0 := (gw_i w 27 (a0.toNatClampNeg))) hc2 ⟨rfl, rfl⟩) rfl rfl (Nat.le_of_ble_eq_true rfl) dX10_formIn_16 (fun v w1 hv => ?_)
  obtain ⟨rfl, rfl⟩ := hv
  refine bw_aload_n (i := 0) dX10_formIn_19 rfl rfl ?_
  refine bw_getr (r := 18) fg_BentWords_Teller_9 rfl rfl dX10_formIn_20 ?_
  refine bw_getr (r := 28) fg_BentWords_Teller_82 rfl rfl dX10_formIn_23 ?_
  refine bw_iload_n (i := 1) dX10_formIn_26 rfl rfl ?_
  obtain ⟨hi3, h⟩ := h
  refine bw_iaload rfl hi3 dX10_formIn_27 ?_
  refine bw_aload_n (i := 0) dX10_formIn_28 rfl rfl ?_
  refine bw_getr (r := 31) fg_BentWords_Teller_15 rfl rfl dX10_formIn_29 ?_
  refine bw_iload_n (i := 2) dX10_formIn_32 rfl rfl ?_
  obtain ⟨hc4, h⟩ := h
  refine bw_cVi (As := [.int (gw_i w 27 (a0.toNatClampNeg))]) (st := [.int (gw_i w 28 (a0.toNatClampNeg)), .int (vX7_nounIn w (gw_i w 27 (a0.toNatClampNeg))), .ref 35]) (Q' := (fun v w1 => (vX7_numberIn w (gw_i w 27 (a0.toNatClampNeg))) = v ∧ w = w1)) cv_BentWords_Teller_96 rfl rfl (fs_X7_numberIn (d := d + 1) (a0 := (gw_i w 27 (a0.toNatClampNeg))) hc4 ⟨rfl, rfl⟩) rfl rfl (Nat.le_of_ble_eq_true rfl) dX10_formIn_33 (fun v w1 hv => ?_)
  obtain ⟨rfl, rfl⟩ := hv
  obtain ⟨Q5, hr, h⟩ := h
  refine bw_cVl (As := [.int (vX7_nounIn w (gw_i w 27 (a0.toNatClampNeg))), .int (gw_i w 28 (a0.toNatClampNeg)), .int (vX7_numberIn w (gw_i w 27 (a0.toNatClampNeg)))]) (st := []) cv_BentWords_Teller_41 rfl rfl hr rfl rfl (Nat.le_of_ble_eq_true rfl) dX10_formIn_36 (fun v6 w7 hv => ?_)
  replace h := h v6 w7 hv
  clear hr
  exact bw_lreturn dX10_formIn_39 rfl ⟨_, rfl, h⟩
theorem wfX10_putWord_19 {E : bw_E} {d : Nat} {w : bw_W} {Q : bw_W → Prop} {l1 : Int64} {l3 : Int32} {l4 : Int32}  (h : ((l3 ≤ l4 → Q w) ∧ (¬ (l3 ≤ l4) → (∃ Q1 : bw_W → Prop, bw_rv E (d + 1) mX10_putByte [.ref 35, .int (vX11_letterOf l1 l4)] w Q1 ∧ ∀ w3, Q1 w3 →
bw_G E (d + 2) mX10_putWord 19 [some (.ref 35), some (.long l1), none, some (.int l3), some (.int (l4 + 1))] [] w3 (bw_qv Q))))) : bw_G E (d + 2) mX10_putWord 19 [some (.ref 35), some (.long l1), none, some (.int l3), some (.int l4)] [] w (bw_qv Q) := by
  refine bw_iload dX10_putWord_19 rfl ?_
  refine bw_iload_n (i := 3) dX10_putWord_21 rfl rfl ?_
  refine bw_icmp_ge (tgt := 41) dX10_putWord_22 (by decide) (fun c => ?_) (fun c => ?_)
  · replace h := h.1 (c)
    exact bw_return dX10_putWord_41 rfl ⟨rfl, h⟩
  · replace h := h.2 (c)
    refine bw_aload_n (i := 0) dX10_putWord_25 rfl rfl ?_
    refine bw_lload_n (i := 1) dX10_putWord_26 rfl rfl ?_
    refine bw_iload dX10_putWord_27 rfl ?_
    refine bw_cNi (As := [.long l1, .int l4]) (st := [.ref 35]) (Q' := (fun v w1 => (vX11_letterOf l1 l4) = v ∧ w = w1)) cn_BentWords_Teller_167 (fs_X11_letterOf (d := d + 1) (a0 := l1) (a1 := l4)  ⟨rfl, rfl⟩) rfl rfl (Nat.le_of_ble_eq_true rfl) dX10_putWord_29 (fun v w1 hv => ?_)
    obtain ⟨rfl, rfl⟩ := hv
    obtain ⟨Q1, hr, h⟩ := h
    refine bw_cVv (As := [.int (vX11_letterOf l1 l4)]) (st := []) cv_BentWords_Teller_157 rfl rfl hr rfl rfl (Nat.le_of_ble_eq_true rfl) dX10_putWord_32 (fun w3 hv => ?_)
    replace h := h w3 hv
    clear hr
    refine bw_iinc (i := 4) (x := l4) (v := (l4 + 1)) (L' := [some (.ref 35), some (.long l1), none, some (.int l3), some (.int (l4 + 1))]) dX10_putWord_35 rfl rfl (Nat.le_of_ble_eq_true rfl) rfl ?_
    refine bw_goto (tgt := 19) dX10_putWord_38 (by decide) ?_
    exact h
theorem wfX10_putWord {E : bw_E} {d : Nat} {w : bw_W} {Q : bw_W → Prop} {a0 : Int64}  (h : ((¬ a0 = 0 → (∃ Q1 : bw_W → Prop, bw_rv E (d + 1) mX10_putBlankBetween [.ref 35] w Q1 ∧ ∀ w3, Q1 w3 →
(∃ Q4 : Int32 → bw_W → Prop, bw_ri E (d + 1) mX11_lettersOf [.long a0] w3 Q4 ∧ ∀ v5 w6, Q4 v5 w6 →
bw_G E (d + 2) mX10_putWord 19 [some (.ref 35), some (.long a0), none, some (.int v5), some (.int 0)] [] w6 (bw_qv Q)))) ∧ (a0 = 0 → Q w))) : bw_rv E (d + 2) mX10_putWord [.ref 35, .long a0] w Q := by
  refine bw_enter rfl (Nat.le_of_ble_eq_true rfl) ?_
  refine bw_lload_n (i := 1) dX10_putWord_0 rfl rfl ?_
  refine bw_lconst (v := 0) dX10_putWord_1 rfl ?_
  refine bw_lcmp_ne (tgt := 7) dX10_putWord_2 dX10_putWord_3 (by decide) (fun c => ?_) (fun c => ?_)
  · replace h := h.1 (c)
    refine bw_aload_n (i := 0) dX10_putWord_7 rfl rfl ?_
    obtain ⟨Q1, hr, h⟩ := h
    refine bw_cVv (As := []) (st := []) cv_BentWords_Teller_160 rfl rfl hr rfl rfl (Nat.le_of_ble_eq_true rfl) dX10_putWord_8 (fun w3 hv => ?_)
    replace h := h w3 hv
    clear hr
    refine bw_lload_n (i := 1) dX10_putWord_11 rfl rfl ?_
    obtain ⟨Q4, hr, h⟩ := h
    refine bw_cNi (As := [.long a0]) (st := []) cn_BentWords_Teller_163 hr rfl rfl (Nat.le_of_ble_eq_true rfl) dX10_putWord_12 (fun v5 w6 hv => ?_)
    replace h := h v5 w6 hv
    clear hr
    refine bw_istore_n (i := 3) (L' := [some (.ref 35), some (.long a0), none, some (.int v5), none]) dX10_putWord_15 rfl (Nat.le_of_ble_eq_true rfl) rfl ?_
    refine bw_iconst (v := 0) dX10_putWord_16 (by decide) ?_
    refine bw_istore (i := 4) (L' := [some (.ref 35), some (.long a0), none, some (.int v5), some (.int 0)]) dX10_putWord_17 (Nat.le_of_ble_eq_true rfl) rfl ?_
    exact h
  · replace h := h.2 (c)
    exact bw_return dX10_putWord_6 rfl ⟨rfl, h⟩
theorem wfX10_putNumber {E : bw_E} {d : Nat} {w : bw_W} {Q : bw_W → Prop} {a0 : Int32}  (h : (∃ Q1 : bw_W → Prop, bw_rv E (d + 1) mX10_putBlankBetween [.ref 35] w Q1 ∧ ∀ w3, Q1 w3 →
((a0 < 10 → (∃ Q4 : bw_W → Prop, bw_rv E (d + 1) mX10_putByte [.ref 35, .int (48 + (a0 - a0 / 10 * 10))] w3 Q4 ∧ ∀ w6, Q4 w6 →
Q w6)) ∧ (¬ (a0 < 10) → (∃ Q7 : bw_W → Prop, bw_rv E (d + 1) mX10_putByte [.ref 35, .int (48 + (a0 / 10))] w3 Q7 ∧ ∀ w9, Q7 w9 →
(∃ Q10 : bw_W → Prop, bw_rv E (d + 1) mX10_putByte [.ref 35, .int (48 + (a0 - a0 / 10 * 10))] w9 Q10 ∧ ∀ w12, Q10 w12 →
Q w12)))))) : bw_rv E (d + 2) mX10_putNumber [.ref 35, .int a0] w Q := by
  refine bw_enter rfl (Nat.le_of_ble_eq_true rfl) ?_
  refine bw_aload_n (i := 0) dX10_putNumber_0 rfl rfl ?_
  obtain ⟨Q1, hr, h⟩ := h
  refine bw_cVv (As := []) (st := []) cv_BentWords_Teller_160 rfl rfl hr rfl rfl (Nat.le_of_ble_eq_true rfl) dX10_putNumber_1 (fun w3 hv => ?_)
  replace h := h w3 hv
  clear hr
  refine bw_iload_n (i := 1) dX10_putNumber_4 rfl rfl ?_
  refine bw_bipush (v := 10) dX10_putNumber_5 (by decide) ?_
  refine bw_icmp_lt (tgt := 21) dX10_putNumber_7 (by decide) (fun c => ?_) (fun c => ?_)
  · replace h := h.1 (c)
    refine bw_aload_n (i := 0) dX10_putNumber_21 rfl rfl ?_
    refine bw_bipush (v := 48) dX10_putNumber_22 (by decide) ?_
    refine bw_iload_n (i := 1) dX10_putNumber_24 rfl rfl ?_
    refine bw_bipush (v := 10) dX10_putNumber_25 (by decide) ?_
    refine bw_irem dX10_putNumber_27 (by decide) ?_
    refine bw_iadd dX10_putNumber_28 ?_
    obtain ⟨Q4, hr, h⟩ := h
    refine bw_cVv (As := [.int (48 + (a0 - a0 / 10 * 10))]) (st := []) cv_BentWords_Teller_157 rfl rfl hr rfl rfl (Nat.le_of_ble_eq_true rfl) dX10_putNumber_29 (fun w6 hv => ?_)
    replace h := h w6 hv
    clear hr
    exact bw_return dX10_putNumber_32 rfl ⟨rfl, h⟩
  · replace h := h.2 (c)
    refine bw_aload_n (i := 0) dX10_putNumber_10 rfl rfl ?_
    refine bw_bipush (v := 48) dX10_putNumber_11 (by decide) ?_
    refine bw_iload_n (i := 1) dX10_putNumber_13 rfl rfl ?_
    refine bw_bipush (v := 10) dX10_putNumber_14 (by decide) ?_
    refine bw_idiv dX10_putNumber_16 (by decide) ?_
    refine bw_iadd dX10_putNumber_17 ?_
    obtain ⟨Q7, hr, h⟩ := h
    refine bw_cVv (As := [.int (48 + (a0 / 10))]) (st := []) cv_BentWords_Teller_157 rfl rfl hr rfl rfl (Nat.le_of_ble_eq_true rfl) dX10_putNumber_18 (fun w9 hv => ?_)
    replace h := h w9 hv
    clear hr
    refine bw_aload_n (i := 0) dX10_putNumber_21 rfl rfl ?_
    refine bw_bipush (v := 48) dX10_putNumber_22 (by decide) ?_
    refine bw_iload_n (i := 1) dX10_putNumber_24 rfl rfl ?_
    refine bw_bipush (v := 10) dX10_putNumber_25 (by decide) ?_
    refine bw_irem dX10_putNumber_27 (by decide) ?_
    refine bw_iadd dX10_putNumber_28 ?_
    obtain ⟨Q10, hr, h⟩ := h
    refine bw_cVv (As := [.int (48 + (a0 - a0 / 10 * 10))]) (st := []) cv_BentWords_Teller_157 rfl rfl hr rfl rfl (Nat.le_of_ble_eq_true rfl) dX10_putNumber_29 (fun w12 hv => ?_)
    replace h := h w12 hv
    clear hr
    exact bw_return dX10_putNumber_32 rfl ⟨rfl, h⟩
theorem wfX10_isMissing {E : bw_E} {d : Nat} {w : bw_W} {Q : Bool → bw_W → Prop} {a0 : Int32}  (h : (((vp_in a0 32))) ∧
(((¬ ((gw_i w 26 (a0.toNatClampNeg)) = 35)) → (vp_in a0 32))) ∧
((¬ (((gw_i w 26 (a0.toNatClampNeg)) = 35) ∨ ((gw_i w 26 (a0.toNatClampNeg)) = 64)) → Q false w) ∧ (((gw_i w 26 (a0.toNatClampNeg)) = 35) ∨ ((gw_i w 26 (a0.toNatClampNeg)) = 64) → (vp_in a0 32) ∧
(((vp_in (48 + (gw_i w 27 (a0.toNatClampNeg))) 52))) ∧
((((gw_l w 32 ((48 + (gw_i w 27 (a0.toNatClampNeg))).toNatClampNeg)) = 0) → Q false w) ∧ (¬ ((gw_l w 32 ((48 + (gw_i w 27 (a0.toNatClampNeg))).toNatClampNeg)) = 0) → (∃ Q5 : Int32 → bw_W → Prop, bw_ri E (d + 1) mX10_defaultIn [.ref 35, .int a0] w Q5 ∧ ∀ v6 w7, Q5 v6 w7 →
((v6 = 0 → Q false w7) ∧ (¬ (v6 = 0) → Q true w7)))))))) : bw_rb E (d + 2) mX10_isMissing [.ref 35, .int a0] w Q := by
  refine bw_enter rfl (Nat.le_of_ble_eq_true rfl) ?_
  refine bw_aload_n (i := 0) dX10_isMissing_0 rfl rfl ?_
  refine bw_getr (r := 18) fg_BentWords_Teller_9 rfl rfl dX10_isMissing_1 ?_
  refine bw_iload_n (i := 1) dX10_isMissing_4 rfl rfl ?_
  obtain ⟨hc1, h⟩ := h
  obtain ⟨hc2, h⟩ := h
  refine bw_cVb (As := [.int a0]) (st := []) (Q' := (fun v w1 => (decide (((gw_i w 26 (a0.toNatClampNeg)) = 35) ∨ ((gw_i w 26 (a0.toNatClampNeg)) = 64))) = v ∧ w = w1)) cv_BentWords_Teller_171 rfl rfl (fs_X3_asksForm (d := d + 1) (a0 := a0) hc1 hc2 ⟨rfl, rfl⟩) rfl rfl (Nat.le_of_ble_eq_true rfl) dX10_isMissing_5 (fun v w1 hv => ?_)
  obtain ⟨rfl, rfl⟩ := hv
  refine bw_ifb_eq (tgt := 42) dX10_isMissing_8 (by decide) (fun c => ?_) (fun c => ?_)
  · replace h := h.1 (of_decide_eq_false c)
    refine bw_iconst (v := 0) dX10_isMissing_42 (by decide) ?_
    exact bw_ireturn dX10_isMissing_43 rfl (bw_nb false) ⟨false, rfl, h⟩
  · replace h := h.2 (of_decide_eq_true c)
    refine bw_aload_n (i := 0) dX10_isMissing_11 rfl rfl ?_
    refine bw_getr (r := 31) fg_BentWords_Teller_15 rfl rfl dX10_isMissing_12 ?_
    refine bw_aload_n (i := 0) dX10_isMissing_15 rfl rfl ?_
    refine bw_getr (r := 18) fg_BentWords_Teller_9 rfl rfl dX10_isMissing_16 ?_
    refine bw_getr (r := 27) fg_BentWords_Teller_72 rfl rfl dX10_isMissing_19 ?_
    refine bw_iload_n (i := 1) dX10_isMissing_22 rfl rfl ?_
    obtain ⟨hi3, h⟩ := h
    refine bw_iaload rfl hi3 dX10_isMissing_23 ?_
    obtain ⟨hc4, h⟩ := h
    refine bw_cVb (As := [.int (gw_i w 27 (a0.toNatClampNeg))]) (st := []) (Q' := (fun v w1 => (decide ((gw_l w 32 ((48 + (gw_i w 27 (a0.toNatClampNeg))).toNatClampNeg)) = 0)) = v ∧ w = w1)) cv_BentWords_Teller_75 rfl rfl (fs_X7_isOpen (d := d + 1) (a0 := (gw_i w 27 (a0.toNatClampNeg))) hc4 ⟨rfl, rfl⟩) rfl rfl (Nat.le_of_ble_eq_true rfl) dX10_isMissing_24 (fun v w1 hv => ?_)
    obtain ⟨rfl, rfl⟩ := hv
    refine bw_ifb_ne (tgt := 42) dX10_isMissing_27 (by decide) (fun c => ?_) (fun c => ?_)
    · replace h := h.1 (of_decide_eq_true c)
      refine bw_iconst (v := 0) dX10_isMissing_42 (by decide) ?_
      exact bw_ireturn dX10_isMissing_43 rfl (bw_nb false) ⟨false, rfl, h⟩
    · replace h := h.2 (of_decide_eq_false c)
      refine bw_aload_n (i := 0) dX10_isMissing_30 rfl rfl ?_
      refine bw_iload_n (i := 1) dX10_isMissing_31 rfl rfl ?_
      obtain ⟨Q5, hr, h⟩ := h
      refine bw_cVi (As := [.int a0]) (st := []) cv_BentWords_Teller_174 rfl rfl hr rfl rfl (Nat.le_of_ble_eq_true rfl) dX10_isMissing_32 (fun v6 w7 hv => ?_)
      replace h := h v6 w7 hv
      clear hr
      refine bw_if_eq (tgt := 42) dX10_isMissing_35 (by decide) (fun c => ?_) (fun c => ?_)
      · replace h := h.1 (c)
        refine bw_iconst (v := 0) dX10_isMissing_42 (by decide) ?_
        exact bw_ireturn dX10_isMissing_43 rfl (bw_nb false) ⟨false, rfl, h⟩
      · replace h := h.2 (c)
        refine bw_iconst (v := 1) dX10_isMissing_38 (by decide) ?_
        refine bw_goto (tgt := 43) dX10_isMissing_39 (by decide) ?_
        exact bw_ireturn dX10_isMissing_43 rfl (bw_nb true) ⟨true, rfl, h⟩
theorem wfX11_adoptLexicon {E : bw_E} {d : Nat} {w : bw_W} {Q : Int32 → bw_W → Prop}   (h : (∃ Q1 : bw_W → Prop, bw_rv E (d + 1) mX3_copyFrom [.ref 18, .ref 5] w Q1 ∧ ∀ w3, Q1 w3 →
(∃ Q4 : bw_W → Prop, bw_rv E (d + 1) mX7_beginWith [.ref 31, .ref 18] (sw_i w3 0 5 1) Q4 ∧ ∀ w6, Q4 w6 →
Q (gw_i w6 18 0) (sw_i (sw_i (sw_i (sw_i w6 37 1 0) 37 4 0) 0 14 0) 1 1 0)))) : bw_ri E (d + 2) mX11_adoptLexicon [.ref 0] w Q := by
  refine bw_enter rfl (Nat.le_of_ble_eq_true rfl) ?_
  refine bw_aload_n (i := 0) dX11_adoptLexicon_0 rfl rfl ?_
  refine bw_getr (r := 18) fg_BentWords_44 rfl rfl dX11_adoptLexicon_1 ?_
  refine bw_aload_n (i := 0) dX11_adoptLexicon_4 rfl rfl ?_
  refine bw_getr (r := 4) fg_BentWords_30 rfl rfl dX11_adoptLexicon_5 ?_
  refine bw_getr (r := 5) fg_BentWords_133 rfl rfl dX11_adoptLexicon_8 ?_
  obtain ⟨Q1, hr, h⟩ := h
  refine bw_cVv (As := [.ref 5]) (st := []) cv_BentWords_136 rfl rfl hr rfl rfl (Nat.le_of_ble_eq_true rfl) dX11_adoptLexicon_11 (fun w3 hv => ?_)
  replace h := h w3 hv
  clear hr
  refine bw_aload_n (i := 0) dX11_adoptLexicon_14 rfl rfl ?_
  refine bw_iconst (v := 1) dX11_adoptLexicon_15 (by decide) ?_
  refine bw_puti fp_BentWords_140 rfl (by decide) (by decide) dX11_adoptLexicon_16 ?_
  refine bw_aload_n (i := 0) dX11_adoptLexicon_19 rfl rfl ?_
  refine bw_getr (r := 31) fg_BentWords_58 rfl rfl dX11_adoptLexicon_20 ?_
  refine bw_aload_n (i := 0) dX11_adoptLexicon_23 rfl rfl ?_
  refine bw_getr (r := 18) fg_BentWords_44 rfl rfl dX11_adoptLexicon_24 ?_
  obtain ⟨Q4, hr, h⟩ := h
  refine bw_cVv (As := [.ref 18]) (st := []) cv_BentWords_144 rfl rfl hr rfl rfl (Nat.le_of_ble_eq_true rfl) dX11_adoptLexicon_27 (fun w6 hv => ?_)
  replace h := h w6 hv
  clear hr
  refine bw_aload_n (i := 0) dX11_adoptLexicon_30 rfl rfl ?_
  refine bw_getr (r := 37) fg_BentWords_77 rfl rfl dX11_adoptLexicon_31 ?_
  refine bw_cVv (As := []) (st := []) (Q' := (fun w1 => (sw_i (sw_i w6 37 1 0) 37 4 0) = w1)) cv_BentWords_147 rfl rfl (fs_X2_clear (d := d + 1)   rfl) rfl rfl (Nat.le_of_ble_eq_true rfl) dX11_adoptLexicon_34 (fun w1 hv => ?_)
  subst hv
  refine bw_aload_n (i := 0) dX11_adoptLexicon_37 rfl rfl ?_
  refine bw_iconst (v := 0) dX11_adoptLexicon_38 (by decide) ?_
  refine bw_puti fp_BentWords_150 rfl (by decide) (by decide) dX11_adoptLexicon_39 ?_
  refine bw_aload_n (i := 0) dX11_adoptLexicon_42 rfl rfl ?_
  refine bw_getr (r := 1) fg_BentWords_12 rfl rfl dX11_adoptLexicon_43 ?_
  refine bw_iconst (v := 0) dX11_adoptLexicon_46 (by decide) ?_
  refine bw_puti fp_BentWords_109 rfl rfl rfl dX11_adoptLexicon_47 ?_
  refine bw_aload_n (i := 0) dX11_adoptLexicon_50 rfl rfl ?_
  refine bw_getr (r := 18) fg_BentWords_44 rfl rfl dX11_adoptLexicon_51 ?_
  refine bw_geti fg_BentWords_153 rfl dX11_adoptLexicon_54 ?_
  rw [show gw_i (sw_i (sw_i (sw_i (sw_i w6 37 1 0) 37 4 0) 0 14 0) 1 1 0) 18 0 = (gw_i w6 18 0) from rfl]
  exact bw_ireturn dX11_adoptLexicon_57 rfl rfl ⟨_, rfl, h⟩
theorem wfX11_fits_35 {E : bw_E} {d : Nat} {w : bw_W} {Q : Int32 → bw_W → Prop} {l1 : Int32} {l2 : Int32} {l3 : Int32} {l4 : Int32} {l5 : Int32}  (h : (((gw_i w 18 0) ≤ l5 → Q l4 w) ∧ (¬ ((gw_i w 18 0) ≤ l5) → (∃ Q1 : Int32 → bw_W → Prop, bw_ri E (d + 1) mX11_formsLacking [.ref 0, .int l5, .int l3] w Q1 ∧ ∀ v2 w3, Q1 v2 w3 →
((¬ v2 = 0 → bw_G E (d + 2) mX11_fits 35 [some (.ref 0), some (.int l1), some (.int l2), some (.int l3), some (.int l4), some (.int (l5 + 1))] [] w3 (bw_qi Q)) ∧ (v2 = 0 → bw_G E (d + 2) mX11_fits 35 [some (.ref 0), some (.int l1), some (.int l2), some (.int l3), some (.int (l4 ||| ((1 : Int32) <<< (l5 &&& 31)))), some (.int (l5 + 1))] [] w3 (bw_qi Q))))))) : bw_G E (d + 2) mX11_fits 35 [some (.ref 0), some (.int l1), some (.int l2), some (.int l3), some (.int l4), some (.int l5)] [] w (bw_qi Q) := by
  refine bw_iload dX11_fits_35 rfl ?_
  refine bw_aload_n (i := 0) dX11_fits_37 rfl rfl ?_
  refine bw_getr (r := 18) fg_BentWords_44 rfl rfl dX11_fits_38 ?_
  refine bw_geti fg_BentWords_153 rfl dX11_fits_41 ?_
  refine bw_icmp_ge (tgt := 72) dX11_fits_44 (by decide) (fun c => ?_) (fun c => ?_)
  · replace h := h.1 (c)
    refine bw_iload dX11_fits_72 rfl ?_
    exact bw_ireturn dX11_fits_74 rfl rfl ⟨_, rfl, h⟩
  · replace h := h.2 (c)
    refine bw_aload_n (i := 0) dX11_fits_47 rfl rfl ?_
    refine bw_iload dX11_fits_48 rfl ?_
    refine bw_iload_n (i := 3) dX11_fits_50 rfl rfl ?_
    obtain ⟨Q1, hr, h⟩ := h
    refine bw_cVi (As := [.int l5, .int l3]) (st := []) cv_BentWords_279 rfl rfl hr rfl rfl (Nat.le_of_ble_eq_true rfl) dX11_fits_51 (fun v2 w3 hv => ?_)
    replace h := h v2 w3 hv
    clear hr
    refine bw_if_ne (tgt := 66) dX11_fits_54 (by decide) (fun c => ?_) (fun c => ?_)
    · replace h := h.1 (c)
      refine bw_iinc (i := 5) (x := l5) (v := (l5 + 1)) (L' := [some (.ref 0), some (.int l1), some (.int l2), some (.int l3), some (.int l4), some (.int (l5 + 1))]) dX11_fits_66 rfl rfl (Nat.le_of_ble_eq_true rfl) rfl ?_
      refine bw_goto (tgt := 35) dX11_fits_69 (by decide) ?_
      exact h
    · replace h := h.2 (c)
      refine bw_iload dX11_fits_57 rfl ?_
      refine bw_iconst (v := 1) dX11_fits_59 (by decide) ?_
      refine bw_iload dX11_fits_60 rfl ?_
      refine bw_ishl dX11_fits_62 ?_
      refine bw_ior dX11_fits_63 ?_
      refine bw_istore (i := 4) (L' := [some (.ref 0), some (.int l1), some (.int l2), some (.int l3), some (.int (l4 ||| ((1 : Int32) <<< (l5 &&& 31)))), some (.int l5)]) dX11_fits_64 (Nat.le_of_ble_eq_true rfl) rfl ?_
      refine bw_iinc (i := 5) (x := l5) (v := (l5 + 1)) (L' := [some (.ref 0), some (.int l1), some (.int l2), some (.int l3), some (.int (l4 ||| ((1 : Int32) <<< (l5 &&& 31)))), some (.int (l5 + 1))]) dX11_fits_66 rfl rfl (Nat.le_of_ble_eq_true rfl) rfl ?_
      refine bw_goto (tgt := 35) dX11_fits_69 (by decide) ?_
      exact h
theorem wfX11_fits {E : bw_E} {d : Nat} {w : bw_W} {Q : Int32 → bw_W → Prop} {a0 : Int32} {a1 : Int32}  (h : ((¬ ((¬ (a0 < 0)) ∧ (¬ ((gw_i w 18 6) ≤ a0))) → Q (-1) w) ∧ ((¬ (a0 < 0)) ∧ (¬ ((gw_i w 18 6) ≤ a0)) → (((¬ (a1 < 0)) ∧ (¬ (3 ≤ a1)) → (∃ Q1 : Int32 → bw_W → Prop, bw_ri E (d + 1) mX3_casesAskedBy [.ref 18, .int a0, .int ((1 : Int32) <<< (a1 &&& 31))] w Q1 ∧ ∀ v2 w3, Q1 v2 w3 →
bw_G E (d + 2) mX11_fits 35 [some (.ref 0), some (.int a0), some (.int a1), some (.int v2), some (.int 0), some (.int 0)] [] w3 (bw_qi Q))) ∧ (¬ ((¬ (a1 < 0)) ∧ (¬ (3 ≤ a1))) → Q (-1) w))))) : bw_ri E (d + 2) mX11_fits [.ref 0, .int a0, .int a1] w Q := by
  refine bw_enter rfl (Nat.le_of_ble_eq_true rfl) ?_
  refine bw_aload_n (i := 0) dX11_fits_0 rfl rfl ?_
  refine bw_iload_n (i := 1) dX11_fits_1 rfl rfl ?_
  refine bw_cVb (As := [.int a0]) (st := []) (Q' := (fun v w1 => (decide ((¬ (a0 < 0)) ∧ (¬ ((gw_i w 18 6) ≤ a0)))) = v ∧ w = w1)) cv_BentWords_235 rfl rfl (fs_X11_hasMessage (d := d + 1) (a0 := a0)  ⟨rfl, rfl⟩) rfl rfl (Nat.le_of_ble_eq_true rfl) dX11_fits_2 (fun v w1 hv => ?_)
  obtain ⟨rfl, rfl⟩ := hv
  refine bw_ifb_eq (tgt := 15) dX11_fits_5 (by decide) (fun c => ?_) (fun c => ?_)
  · replace h := h.1 (of_decide_eq_false c)
    refine bw_iconst (v := (-1)) dX11_fits_15 (by decide) ?_
    exact bw_ireturn dX11_fits_16 rfl rfl ⟨_, rfl, h⟩
  · replace h := h.2 (of_decide_eq_true c)
    refine bw_iload_n (i := 2) dX11_fits_8 rfl rfl ?_
    refine bw_cSb (As := [.int a1]) (st := []) (Q' := (fun v w1 => (decide ((¬ (a1 < 0)) ∧ (¬ (3 ≤ a1)))) = v ∧ w = w1)) cs_BentWords_220 (fs_X11_isHole (d := d + 1) (a0 := a1)  ⟨rfl, rfl⟩) rfl rfl (Nat.le_of_ble_eq_true rfl) dX11_fits_9 (fun v w1 hv => ?_)
    obtain ⟨rfl, rfl⟩ := hv
    refine bw_ifb_ne (tgt := 17) dX11_fits_12 (by decide) (fun c => ?_) (fun c => ?_)
    · replace h := h.1 (of_decide_eq_true c)
      refine bw_aload_n (i := 0) dX11_fits_17 rfl rfl ?_
      refine bw_getr (r := 18) fg_BentWords_44 rfl rfl dX11_fits_18 ?_
      refine bw_iload_n (i := 1) dX11_fits_21 rfl rfl ?_
      refine bw_iconst (v := 1) dX11_fits_22 (by decide) ?_
      refine bw_iload_n (i := 2) dX11_fits_23 rfl rfl ?_
      refine bw_ishl dX11_fits_24 ?_
      obtain ⟨Q1, hr, h⟩ := h
      refine bw_cVi (As := [.int a0, .int ((1 : Int32) <<< (a1 &&& 31))]) (st := []) cv_BentWords_276 rfl rfl hr rfl rfl (Nat.le_of_ble_eq_true rfl) dX11_fits_25 (fun v2 w3 hv => ?_)
      replace h := h v2 w3 hv
      clear hr
      refine bw_istore_n (i := 3) (L' := [some (.ref 0), some (.int a0), some (.int a1), some (.int v2), none, none]) dX11_fits_28 rfl (Nat.le_of_ble_eq_true rfl) rfl ?_
      refine bw_iconst (v := 0) dX11_fits_29 (by decide) ?_
      refine bw_istore (i := 4) (L' := [some (.ref 0), some (.int a0), some (.int a1), some (.int v2), some (.int 0), none]) dX11_fits_30 (Nat.le_of_ble_eq_true rfl) rfl ?_
      refine bw_iconst (v := 0) dX11_fits_32 (by decide) ?_
      refine bw_istore (i := 5) (L' := [some (.ref 0), some (.int a0), some (.int a1), some (.int v2), some (.int 0), some (.int 0)]) dX11_fits_33 (Nat.le_of_ble_eq_true rfl) rfl ?_
      exact h
    · replace h := h.2 (of_decide_eq_false c)
      refine bw_iconst (v := (-1)) dX11_fits_15 (by decide) ?_
      exact bw_ireturn dX11_fits_16 rfl rfl ⟨_, rfl, h⟩
theorem wfX11_needs_26 {E : bw_E} {d : Nat} {w : bw_W} {Q : Int32 → bw_W → Prop} {l1 : Int32} {l2 : Int32} {l3 : Int32} {l4 : Int32}  (h : (((gw_i w 18 0) ≤ l4 → Q l3 w) ∧ (¬ ((gw_i w 18 0) ≤ l4) → (∃ Q1 : Int32 → bw_W → Prop, bw_ri E (d + 1) mX11_formsLacking [.ref 0, .int l4, .int l2] w Q1 ∧ ∀ v2 w3, Q1 v2 w3 →
bw_G E (d + 2) mX11_needs 26 [some (.ref 0), some (.int l1), some (.int l2), some (.int (l3 + v2)), some (.int (l4 + 1))] [] w3 (bw_qi Q))))) : bw_G E (d + 2) mX11_needs 26 [some (.ref 0), some (.int l1), some (.int l2), some (.int l3), some (.int l4)] [] w (bw_qi Q) := by
  refine bw_iload dX11_needs_26 rfl ?_
  refine bw_aload_n (i := 0) dX11_needs_28 rfl rfl ?_
  refine bw_getr (r := 18) fg_BentWords_44 rfl rfl dX11_needs_29 ?_
  refine bw_geti fg_BentWords_153 rfl dX11_needs_32 ?_
  refine bw_icmp_ge (tgt := 54) dX11_needs_35 (by decide) (fun c => ?_) (fun c => ?_)
  · replace h := h.1 (c)
    refine bw_iload_n (i := 3) dX11_needs_54 rfl rfl ?_
    exact bw_ireturn dX11_needs_55 rfl rfl ⟨_, rfl, h⟩
  · replace h := h.2 (c)
    refine bw_iload_n (i := 3) dX11_needs_38 rfl rfl ?_
    refine bw_aload_n (i := 0) dX11_needs_39 rfl rfl ?_
    refine bw_iload dX11_needs_40 rfl ?_
    refine bw_iload_n (i := 2) dX11_needs_42 rfl rfl ?_
    obtain ⟨Q1, hr, h⟩ := h
    refine bw_cVi (As := [.int l4, .int l2]) (st := [.int l3]) cv_BentWords_279 rfl rfl hr rfl rfl (Nat.le_of_ble_eq_true rfl) dX11_needs_43 (fun v2 w3 hv => ?_)
    replace h := h v2 w3 hv
    clear hr
    refine bw_iadd dX11_needs_46 ?_
    refine bw_istore_n (i := 3) (L' := [some (.ref 0), some (.int l1), some (.int l2), some (.int (l3 + v2)), some (.int l4)]) dX11_needs_47 rfl (Nat.le_of_ble_eq_true rfl) rfl ?_
    refine bw_iinc (i := 4) (x := l4) (v := (l4 + 1)) (L' := [some (.ref 0), some (.int l1), some (.int l2), some (.int (l3 + v2)), some (.int (l4 + 1))]) dX11_needs_48 rfl rfl (Nat.le_of_ble_eq_true rfl) rfl ?_
    refine bw_goto (tgt := 26) dX11_needs_51 (by decide) ?_
    exact h
theorem wfX11_needs {E : bw_E} {d : Nat} {w : bw_W} {Q : Int32 → bw_W → Prop} {a0 : Int32}  (h : (((¬ (a0 < 0)) ∧ (¬ ((gw_i w 18 6) ≤ a0)) → (∃ Q1 : Int32 → bw_W → Prop, bw_ri E (d + 1) mX3_casesAskedBy [.ref 18, .int a0, .int 7] w Q1 ∧ ∀ v2 w3, Q1 v2 w3 →
bw_G E (d + 2) mX11_needs 26 [some (.ref 0), some (.int a0), some (.int v2), some (.int 0), some (.int 0)] [] w3 (bw_qi Q))) ∧ (¬ ((¬ (a0 < 0)) ∧ (¬ ((gw_i w 18 6) ≤ a0))) → Q (-1) w))) : bw_ri E (d + 2) mX11_needs [.ref 0, .int a0] w Q := by
  refine bw_enter rfl (Nat.le_of_ble_eq_true rfl) ?_
  refine bw_aload_n (i := 0) dX11_needs_0 rfl rfl ?_
  refine bw_iload_n (i := 1) dX11_needs_1 rfl rfl ?_
  refine bw_cVb (As := [.int a0]) (st := []) (Q' := (fun v w1 => (decide ((¬ (a0 < 0)) ∧ (¬ ((gw_i w 18 6) ≤ a0)))) = v ∧ w = w1)) cv_BentWords_235 rfl rfl (fs_X11_hasMessage (d := d + 1) (a0 := a0)  ⟨rfl, rfl⟩) rfl rfl (Nat.le_of_ble_eq_true rfl) dX11_needs_2 (fun v w1 hv => ?_)
  obtain ⟨rfl, rfl⟩ := hv
  refine bw_ifb_ne (tgt := 10) dX11_needs_5 (by decide) (fun c => ?_) (fun c => ?_)
  · replace h := h.1 (of_decide_eq_true c)
    refine bw_aload_n (i := 0) dX11_needs_10 rfl rfl ?_
    refine bw_getr (r := 18) fg_BentWords_44 rfl rfl dX11_needs_11 ?_
    refine bw_iload_n (i := 1) dX11_needs_14 rfl rfl ?_
    refine bw_bipush (v := 7) dX11_needs_15 (by decide) ?_
    obtain ⟨Q1, hr, h⟩ := h
    refine bw_cVi (As := [.int a0, .int 7]) (st := []) cv_BentWords_276 rfl rfl hr rfl rfl (Nat.le_of_ble_eq_true rfl) dX11_needs_17 (fun v2 w3 hv => ?_)
    replace h := h v2 w3 hv
    clear hr
    refine bw_istore_n (i := 2) (L' := [some (.ref 0), some (.int a0), some (.int v2), none, none]) dX11_needs_20 rfl (Nat.le_of_ble_eq_true rfl) rfl ?_
    refine bw_iconst (v := 0) dX11_needs_21 (by decide) ?_
    refine bw_istore_n (i := 3) (L' := [some (.ref 0), some (.int a0), some (.int v2), some (.int 0), none]) dX11_needs_22 rfl (Nat.le_of_ble_eq_true rfl) rfl ?_
    refine bw_iconst (v := 0) dX11_needs_23 (by decide) ?_
    refine bw_istore (i := 4) (L' := [some (.ref 0), some (.int a0), some (.int v2), some (.int 0), some (.int 0)]) dX11_needs_24 (Nat.le_of_ble_eq_true rfl) rfl ?_
    exact h
  · replace h := h.2 (of_decide_eq_false c)
    refine bw_iconst (v := (-1)) dX11_needs_8 (by decide) ?_
    exact bw_ireturn dX11_needs_9 rfl rfl ⟨_, rfl, h⟩
theorem wfX11_log {E : bw_E} {d : Nat} {w : bw_W} {Q : Int32 → bw_W → Prop} {a0 : Int32} {a1 : Int32}  (h : ((a0 < 0 → Q (-1000000) w) ∧ (¬ (a0 < 0) → ((a0 < (vX2_logged w ) → (((vp_in ((((gw_i w 37 1) - 1) - a0) - (((gw_i w 37 1) - 1) - a0) / 100 * 100) 100))) ∧
((a1 = 0 → Q ((vX2_rowAt w a0) / 100) w) ∧ (a1 = 1 → Q (((vX2_rowAt w a0) / 10) - ((vX2_rowAt w a0) / 10) / 10 * 10) w) ∧ (a1 = 2 → Q ((vX2_rowAt w a0) - (vX2_rowAt w a0) / 10 * 10) w) ∧ (a1.toInt < 0 ∨ 2 < a1.toInt → Q (-1000000) w))) ∧ (¬ (a0 < (vX2_logged w )) → Q (-1000000) w))))) : bw_ri E (d + 2) mX11_log [.ref 0, .int a0, .int a1] w Q := by
  refine bw_enter rfl (Nat.le_of_ble_eq_true rfl) ?_
  refine bw_iload_n (i := 1) dX11_log_0 rfl rfl ?_
  refine bw_if_lt (tgt := 15) dX11_log_1 (by decide) (fun c => ?_) (fun c => ?_)
  · replace h := h.1 (c)
    refine bw_ldcw ki_BentWords_345 dX11_log_15 ?_
    exact bw_ireturn dX11_log_18 rfl rfl ⟨_, rfl, h⟩
  · replace h := h.2 (c)
    refine bw_iload_n (i := 1) dX11_log_4 rfl rfl ?_
    refine bw_aload_n (i := 0) dX11_log_5 rfl rfl ?_
    refine bw_getr (r := 37) fg_BentWords_77 rfl rfl dX11_log_6 ?_
    refine bw_cVi (As := []) (st := [.int a0]) (Q' := (fun v w1 => (vX2_logged w ) = v ∧ w = w1)) cv_BentWords_342 rfl rfl (fs_X2_logged (d := d + 0)   ⟨rfl, rfl⟩) rfl rfl (Nat.le_of_ble_eq_true rfl) dX11_log_9 (fun v w1 hv => ?_)
    obtain ⟨rfl, rfl⟩ := hv
    refine bw_icmp_lt (tgt := 19) dX11_log_12 (by decide) (fun c => ?_) (fun c => ?_)
    · replace h := h.1 (c)
      refine bw_aload_n (i := 0) dX11_log_19 rfl rfl ?_
      refine bw_getr (r := 37) fg_BentWords_77 rfl rfl dX11_log_20 ?_
      refine bw_iload_n (i := 1) dX11_log_23 rfl rfl ?_
      obtain ⟨hc1, h⟩ := h
      refine bw_cVi (As := [.int a0]) (st := []) (Q' := (fun v w1 => (vX2_rowAt w a0) = v ∧ w = w1)) cv_BentWords_346 rfl rfl (fs_X2_rowAt (d := d + 1) (a0 := a0) hc1 ⟨rfl, rfl⟩) rfl rfl (Nat.le_of_ble_eq_true rfl) dX11_log_24 (fun v w1 hv => ?_)
      obtain ⟨rfl, rfl⟩ := hv
      refine bw_istore_n (i := 3) (L' := [some (.ref 0), some (.int a0), some (.int a1), some (.int (vX2_rowAt w a0))]) dX11_log_27 rfl (Nat.le_of_ble_eq_true rfl) rfl ?_
      refine bw_iload_n (i := 2) dX11_log_28 rfl rfl ?_
      refine bw_tabsw dX11_log_29 [56, 61, 66] 71 (by decide) rfl rfl (fun j hj hx => ?_) (fun hx => ?_)
      · match j, hj, hx with
        | 0, _, hx =>
          replace h := h.1 (bw_ti hx (by decide))
          refine bw_iload_n (i := 3) dX11_log_56 rfl rfl ?_
          refine bw_cSi (As := [.int (vX2_rowAt w a0)]) (st := []) (Q' := (fun v w1 => ((vX2_rowAt w a0) / 100) = v ∧ w = w1)) cs_BentWords_349 (fs_X2_sortIn (d := d + 1) (a0 := (vX2_rowAt w a0))  ⟨rfl, rfl⟩) rfl rfl (Nat.le_of_ble_eq_true rfl) dX11_log_57 (fun v w1 hv => ?_)
          obtain ⟨rfl, rfl⟩ := hv
          exact bw_ireturn dX11_log_60 rfl rfl ⟨_, rfl, h⟩
        | 1, _, hx =>
          replace h := h.2.1 (bw_ti hx (by decide))
          refine bw_iload_n (i := 3) dX11_log_61 rfl rfl ?_
          refine bw_cSi (As := [.int (vX2_rowAt w a0)]) (st := []) (Q' := (fun v w1 => (((vX2_rowAt w a0) / 10) - ((vX2_rowAt w a0) / 10) / 10 * 10) = v ∧ w = w1)) cs_BentWords_352 (fs_X2_numberIn (d := d + 1) (a0 := (vX2_rowAt w a0))  ⟨rfl, rfl⟩) rfl rfl (Nat.le_of_ble_eq_true rfl) dX11_log_62 (fun v w1 hv => ?_)
          obtain ⟨rfl, rfl⟩ := hv
          exact bw_ireturn dX11_log_65 rfl rfl ⟨_, rfl, h⟩
        | 2, _, hx =>
          replace h := h.2.2.1 (bw_ti hx (by decide))
          refine bw_iload_n (i := 3) dX11_log_66 rfl rfl ?_
          refine bw_cSi (As := [.int (vX2_rowAt w a0)]) (st := []) (Q' := (fun v w1 => ((vX2_rowAt w a0) - (vX2_rowAt w a0) / 10 * 10) = v ∧ w = w1)) cs_BentWords_353 (fs_X2_tellableIn (d := d + 1) (a0 := (vX2_rowAt w a0))  ⟨rfl, rfl⟩) rfl rfl (Nat.le_of_ble_eq_true rfl) dX11_log_67 (fun v w1 hv => ?_)
          obtain ⟨rfl, rfl⟩ := hv
          exact bw_ireturn dX11_log_70 rfl rfl ⟨_, rfl, h⟩
        | j + 3, hj, _ => exact absurd hj (by simp)
      · replace h := h.2.2.2 hx
        refine bw_ldcw ki_BentWords_345 dX11_log_71 ?_
        exact bw_ireturn dX11_log_74 rfl rfl ⟨_, rfl, h⟩
    · replace h := h.2 (c)
      refine bw_ldcw ki_BentWords_345 dX11_log_15 ?_
      exact bw_ireturn dX11_log_18 rfl rfl ⟨_, rfl, h⟩
theorem wfX11_refusalOf {E : bw_E} {d : Nat} {w : bw_W} {Q : Int32 → bw_W → Prop} {sp : Nat} (h_sp : bw_sh sp = (0, 8, 5)) (h : ((¬ (gw_i w 0 5) = 0 → (∃ Q1 : Int32 → bw_W → Prop, bw_ri E (d + 1) mX11_boundsRefusal [.ref 0, .ref sp] w Q1 ∧ ∀ v2 w3, Q1 v2 w3 →
((v2 = (-1) → (∃ Q4 : Int32 → bw_W → Prop, bw_ri E (d + 1) mX8_cell [.ref sp] w3 Q4 ∧ ∀ v5 w6, Q4 v5 w6 →
(vp_in v5 52) ∧
(∃ Q8 : Int64 → bw_W → Prop, bw_rl E (d + 1) mX8_value [.ref sp] w6 Q8 ∧ ∀ v9 w10, Q8 v9 w10 →
((¬ (gw_l w6 32 (v5.toNatClampNeg)) = v9 → Q (-1) w10) ∧ ((gw_l w6 32 (v5.toNatClampNeg)) = v9 → Q 2 w10))))) ∧ (¬ (v2 = (-1)) → Q v2 w3)))) ∧ ((gw_i w 0 5) = 0 → Q 0 w))) : bw_ri E (d + 2) mX11_refusalOf [.ref 0, .ref sp] w Q := by
  refine bw_enter rfl (Nat.le_of_ble_eq_true rfl) ?_
  refine bw_aload_n (i := 0) dX11_refusalOf_0 rfl rfl ?_
  refine bw_geti fg_BentWords_140 rfl dX11_refusalOf_1 ?_
  refine bw_if_ne (tgt := 9) dX11_refusalOf_4 (by decide) (fun c => ?_) (fun c => ?_)
  · replace h := h.1 (c)
    refine bw_aload_n (i := 0) dX11_refusalOf_9 rfl rfl ?_
    refine bw_aload_n (i := 1) dX11_refusalOf_10 rfl rfl ?_
    obtain ⟨Q1, hr, h⟩ := h
    refine bw_cVi (As := [.ref sp]) (st := []) cv_BentWords_385 rfl rfl hr rfl rfl (Nat.le_of_ble_eq_true rfl) dX11_refusalOf_11 (fun v2 w3 hv => ?_)
    replace h := h v2 w3 hv
    clear hr
    refine bw_istore_n (i := 2) (L' := [some (.ref 0), some (.ref sp), some (.int v2)]) dX11_refusalOf_14 rfl (Nat.le_of_ble_eq_true rfl) rfl ?_
    refine bw_iload_n (i := 2) dX11_refusalOf_15 rfl rfl ?_
    refine bw_iconst (v := (-1)) dX11_refusalOf_16 (by decide) ?_
    refine bw_icmp_eq (tgt := 22) dX11_refusalOf_17 (by decide) (fun c => ?_) (fun c => ?_)
    · replace h := h.1 (c)
      refine bw_aload_n (i := 0) dX11_refusalOf_22 rfl rfl ?_
      refine bw_getr (r := 31) fg_BentWords_58 rfl rfl dX11_refusalOf_23 ?_
      refine bw_getr (r := 32) fg_BentWords_170 rfl rfl dX11_refusalOf_26 ?_
      refine bw_aload_n (i := 1) dX11_refusalOf_29 rfl rfl ?_
      obtain ⟨Q4, hr, h⟩ := h
      refine bw_cVi (As := []) (st := [.ref 32]) cv_BentWords_360 h_sp rfl hr rfl rfl (Nat.le_of_ble_eq_true rfl) dX11_refusalOf_30 (fun v5 w6 hv => ?_)
      replace h := h v5 w6 hv
      clear hr
      obtain ⟨hi7, h⟩ := h
      refine bw_laload rfl hi7 dX11_refusalOf_33 ?_
      refine bw_aload_n (i := 1) dX11_refusalOf_34 rfl rfl ?_
      obtain ⟨Q8, hr, h⟩ := h
      refine bw_cVl (As := []) (st := [.long (gw_l w6 32 (v5.toNatClampNeg))]) cv_BentWords_363 h_sp rfl hr rfl rfl (Nat.le_of_ble_eq_true rfl) dX11_refusalOf_35 (fun v9 w10 hv => ?_)
      replace h := h v9 w10 hv
      clear hr
      refine bw_lcmp_ne (tgt := 46) dX11_refusalOf_38 dX11_refusalOf_39 (by decide) (fun c => ?_) (fun c => ?_)
      · replace h := h.1 (c)
        refine bw_iconst (v := (-1)) dX11_refusalOf_46 (by decide) ?_
        exact bw_ireturn dX11_refusalOf_47 rfl rfl ⟨_, rfl, h⟩
      · replace h := h.2 (c)
        refine bw_iconst (v := 2) dX11_refusalOf_42 (by decide) ?_
        refine bw_goto (tgt := 47) dX11_refusalOf_43 (by decide) ?_
        exact bw_ireturn dX11_refusalOf_47 rfl rfl ⟨_, rfl, h⟩
    · replace h := h.2 (c)
      refine bw_iload_n (i := 2) dX11_refusalOf_20 rfl rfl ?_
      exact bw_ireturn dX11_refusalOf_21 rfl rfl ⟨_, rfl, h⟩
  · replace h := h.2 (c)
    refine bw_iconst (v := 0) dX11_refusalOf_7 (by decide) ?_
    exact bw_ireturn dX11_refusalOf_8 rfl rfl ⟨_, rfl, h⟩
theorem wfX11_step {E : bw_E} {d : Nat} {w : bw_W} {Q : Int32 → bw_W → Prop} {a0 : Int32} {a1 : Int32} {a2 : Int32}  (h : ((¬ ((¬ (a0 < 0)) ∧ (¬ ((gw_i w 0 7) ≤ a0))) → Q (-1000000) w) ∧ ((¬ (a0 < 0)) ∧ (¬ ((gw_i w 0 7) ≤ a0)) → ((a1 < 0 → Q (-1000000) w) ∧ (¬ (a1 < 0) → (vp_in a0 5) ∧
(bw_sh (bw_rf 30 (a0.toNatClampNeg)) = (0, 5, 2)) ∧
((a1 < (gw_i w (bw_rf 30 (a0.toNatClampNeg)) 0) → (vp_in a0 5) ∧
(bw_sh (bw_rf (bw_rf 30 (a0.toNatClampNeg)) 1) = (5, 12, 0)) ∧
(vp_in a1 12) ∧
((a2 = 0 → (bw_sh (bw_rf (bw_rf (bw_rf 30 (a0.toNatClampNeg)) 1) (a1.toNatClampNeg)) = (0, 8, 5)) ∧
Q (gw_i w (bw_rf (bw_rf (bw_rf 30 (a0.toNatClampNeg)) 1) (a1.toNatClampNeg)) 0) w) ∧ (a2 = 1 → (bw_sh (bw_rf (bw_rf (bw_rf 30 (a0.toNatClampNeg)) 1) (a1.toNatClampNeg)) = (0, 8, 5)) ∧
Q (gw_i w (bw_rf (bw_rf (bw_rf 30 (a0.toNatClampNeg)) 1) (a1.toNatClampNeg)) 1) w) ∧ (a2 = 2 → (bw_sh (bw_rf (bw_rf (bw_rf 30 (a0.toNatClampNeg)) 1) (a1.toNatClampNeg)) = (0, 8, 5)) ∧
((¬ (((gw_i w (bw_rf (bw_rf (bw_rf 30 (a0.toNatClampNeg)) 1) (a1.toNatClampNeg)) 0) = 0) ∨ (((gw_i w (bw_rf (bw_rf (bw_rf 30 (a0.toNatClampNeg)) 1) (a1.toNatClampNeg)) 0) = 3) ∨ ((gw_i w (bw_rf (bw_rf (bw_rf 30 (a0.toNatClampNeg)) 1) (a1.toNatClampNeg)) 0) = 4))) → Q (-1000000) w) ∧ (((gw_i w (bw_rf (bw_rf (bw_rf 30 (a0.toNatClampNeg)) 1) (a1.toNatClampNeg)) 0) = 0) ∨ (((gw_i w (bw_rf (bw_rf (bw_rf 30 (a0.toNatClampNeg)) 1) (a1.toNatClampNeg)) 0) = 3) ∨ ((gw_i w (bw_rf (bw_rf (bw_rf 30 (a0.toNatClampNeg)) 1) (a1.toNatClampNeg)) 0) = 4)) → Q (gw_i w (bw_rf (bw_rf (bw_rf 30 (a0.toNatClampNeg)) 1) (a1.toNatClampNeg)) 2) w))) ∧ (a2 = 3 → (bw_sh (bw_rf (bw_rf (bw_rf 30 (a0.toNatClampNeg)) 1) (a1.toNatClampNeg)) = (0, 8, 5)) ∧
((¬ (((gw_i w (bw_rf (bw_rf (bw_rf 30 (a0.toNatClampNeg)) 1) (a1.toNatClampNeg)) 0) = 0) ∨ (((gw_i w (bw_rf (bw_rf (bw_rf 30 (a0.toNatClampNeg)) 1) (a1.toNatClampNeg)) 0) = 3) ∨ ((gw_i w (bw_rf (bw_rf (bw_rf 30 (a0.toNatClampNeg)) 1) (a1.toNatClampNeg)) 0) = 4))) → Q (-1000000) w) ∧ (((gw_i w (bw_rf (bw_rf (bw_rf 30 (a0.toNatClampNeg)) 1) (a1.toNatClampNeg)) 0) = 0) ∨ (((gw_i w (bw_rf (bw_rf (bw_rf 30 (a0.toNatClampNeg)) 1) (a1.toNatClampNeg)) 0) = 3) ∨ ((gw_i w (bw_rf (bw_rf (bw_rf 30 (a0.toNatClampNeg)) 1) (a1.toNatClampNeg)) 0) = 4)) → Q (gw_i w (bw_rf (bw_rf (bw_rf 30 (a0.toNatClampNeg)) 1) (a1.toNatClampNeg)) 3) w))) ∧ (a2 = 4 → (bw_sh (bw_rf (bw_rf (bw_rf 30 (a0.toNatClampNeg)) 1) (a1.toNatClampNeg)) = (0, 8, 5)) ∧
(∃ Q11 : Int32 → bw_W → Prop, bw_ri E (d + 1) mX11_lettersOf [.long (gw_l w (bw_rf (bw_rf (bw_rf 30 (a0.toNatClampNeg)) 1) (a1.toNatClampNeg)) 4)] w Q11 ∧ ∀ v12 w13, Q11 v12 w13 →
Q v12 w13)) ∧ (a2.toInt < 0 ∨ 4 < a2.toInt → Q (-1000000) w))) ∧ (¬ (a1 < (gw_i w (bw_rf 30 (a0.toNatClampNeg)) 0)) → Q (-1000000) w))))))) : bw_ri E (d + 2) mX11_step [.ref 0, .int a0, .int a1, .int a2] w Q := by
  refine bw_enter rfl (Nat.le_of_ble_eq_true rfl) ?_
  refine bw_aload_n (i := 0) dX11_step_0 rfl rfl ?_
  refine bw_iload_n (i := 1) dX11_step_1 rfl rfl ?_
  refine bw_cVb (As := [.int a0]) (st := []) (Q' := (fun v w1 => (decide ((¬ (a0 < 0)) ∧ (¬ ((gw_i w 0 7) ≤ a0)))) = v ∧ w = w1)) cv_BentWords_397 rfl rfl (fs_X11_hasScript (d := d + 1) (a0 := a0)  ⟨rfl, rfl⟩) rfl rfl (Nat.le_of_ble_eq_true rfl) dX11_step_2 (fun v w1 hv => ?_)
  obtain ⟨rfl, rfl⟩ := hv
  refine bw_ifb_eq (tgt := 25) dX11_step_5 (by decide) (fun c => ?_) (fun c => ?_)
  · replace h := h.1 (of_decide_eq_false c)
    refine bw_ldcw ki_BentWords_345 dX11_step_25 ?_
    exact bw_ireturn dX11_step_28 rfl rfl ⟨_, rfl, h⟩
  · replace h := h.2 (of_decide_eq_true c)
    refine bw_iload_n (i := 2) dX11_step_8 rfl rfl ?_
    refine bw_if_lt (tgt := 25) dX11_step_9 (by decide) (fun c => ?_) (fun c => ?_)
    · replace h := h.1 (c)
      refine bw_ldcw ki_BentWords_345 dX11_step_25 ?_
      exact bw_ireturn dX11_step_28 rfl rfl ⟨_, rfl, h⟩
    · replace h := h.2 (c)
      refine bw_iload_n (i := 2) dX11_step_12 rfl rfl ?_
      refine bw_aload_n (i := 0) dX11_step_13 rfl rfl ?_
      refine bw_getr (r := 30) fg_BentWords_50 rfl rfl dX11_step_14 ?_
      refine bw_iload_n (i := 1) dX11_step_17 rfl rfl ?_
      obtain ⟨hi1, h⟩ := h
      refine bw_aaload4 (r := (bw_rf 30 (a0.toNatClampNeg))) rfl hi1 rfl dX11_step_18 ?_
      obtain ⟨hs2, h⟩ := h
      refine bw_geti fg_BentWords_400 hs2 dX11_step_19 ?_
      refine bw_icmp_lt (tgt := 29) dX11_step_22 (by decide) (fun c => ?_) (fun c => ?_)
      · replace h := h.1 (c)
        refine bw_aload_n (i := 0) dX11_step_29 rfl rfl ?_
        refine bw_getr (r := 30) fg_BentWords_50 rfl rfl dX11_step_30 ?_
        refine bw_iload_n (i := 1) dX11_step_33 rfl rfl ?_
        obtain ⟨hi3, h⟩ := h
        refine bw_aaload4 (r := (bw_rf 30 (a0.toNatClampNeg))) rfl hi3 rfl dX11_step_34 ?_
        refine bw_getr (r := (bw_rf (bw_rf 30 (a0.toNatClampNeg)) 1)) fg_BentWords_401 hs2 rfl dX11_step_35 ?_
        refine bw_iload_n (i := 2) dX11_step_38 rfl rfl ?_
        obtain ⟨hs4, h⟩ := h
        obtain ⟨hi5, h⟩ := h
        refine bw_aaload5 (r := (bw_rf (bw_rf (bw_rf 30 (a0.toNatClampNeg)) 1) (a1.toNatClampNeg))) hs4 hi5 rfl dX11_step_39 ?_
        refine bw_astore (i := 4) (L' := [some (.ref 0), some (.int a0), some (.int a1), some (.int a2), some (.ref (bw_rf (bw_rf (bw_rf 30 (a0.toNatClampNeg)) 1) (a1.toNatClampNeg)))]) dX11_step_40 (Nat.le_of_ble_eq_true rfl) rfl ?_
        refine bw_iload_n (i := 3) dX11_step_42 rfl rfl ?_
        refine bw_tabsw dX11_step_43 [76, 82, 88, 108, 128] 137 (by decide) rfl rfl (fun j hj hx => ?_) (fun hx => ?_)
        · match j, hj, hx with
          | 0, _, hx =>
            replace h := h.1 (bw_ti hx (by decide))
            refine bw_aload dX11_step_76 rfl ?_
            obtain ⟨hs6, h⟩ := h
            refine bw_geti fg_BentWords_370 hs6 dX11_step_78 ?_
            exact bw_ireturn dX11_step_81 rfl rfl ⟨_, rfl, h⟩
          | 1, _, hx =>
            replace h := h.2.1 (bw_ti hx (by decide))
            refine bw_aload dX11_step_82 rfl ?_
            obtain ⟨hs7, h⟩ := h
            refine bw_geti fg_BentWords_373 hs7 dX11_step_84 ?_
            exact bw_ireturn dX11_step_87 rfl rfl ⟨_, rfl, h⟩
          | 2, _, hx =>
            replace h := h.2.2.1 (bw_ti hx (by decide))
            refine bw_aload dX11_step_88 rfl ?_
            obtain ⟨hs8, h⟩ := h
            refine bw_cVb (As := []) (st := []) (Q' := (fun v w1 => (decide (((gw_i w (bw_rf (bw_rf (bw_rf 30 (a0.toNatClampNeg)) 1) (a1.toNatClampNeg)) 0) = 0) ∨ (((gw_i w (bw_rf (bw_rf (bw_rf 30 (a0.toNatClampNeg)) 1) (a1.toNatClampNeg)) 0) = 3) ∨ ((gw_i w (bw_rf (bw_rf (bw_rf 30 (a0.toNatClampNeg)) 1) (a1.toNatClampNeg)) 0) = 4)))) = v ∧ w = w1)) cv_BentWords_405 hs8 rfl (fs_X8_hasThreeNumbers (d := d + 1) (sp := (bw_rf (bw_rf (bw_rf 30 (a0.toNatClampNeg)) 1) (a1.toNatClampNeg)))  hs8 ⟨rfl, rfl⟩) rfl rfl (Nat.le_of_ble_eq_true rfl) dX11_step_90 (fun v w1 hv => ?_)
            obtain ⟨rfl, rfl⟩ := hv
            refine bw_ifb_eq (tgt := 104) dX11_step_93 (by decide) (fun c => ?_) (fun c => ?_)
            · replace h := h.1 (of_decide_eq_false c)
              refine bw_ldcw ki_BentWords_345 dX11_step_104 ?_
              exact bw_ireturn dX11_step_107 rfl rfl ⟨_, rfl, h⟩
            · replace h := h.2 (of_decide_eq_true c)
              refine bw_aload dX11_step_96 rfl ?_
              refine bw_geti fg_BentWords_388 hs8 dX11_step_98 ?_
              refine bw_goto (tgt := 107) dX11_step_101 (by decide) ?_
              exact bw_ireturn dX11_step_107 rfl rfl ⟨_, rfl, h⟩
          | 3, _, hx =>
            replace h := h.2.2.2.1 (bw_ti hx (by decide))
            refine bw_aload dX11_step_108 rfl ?_
            obtain ⟨hs9, h⟩ := h
            refine bw_cVb (As := []) (st := []) (Q' := (fun v w1 => (decide (((gw_i w (bw_rf (bw_rf (bw_rf 30 (a0.toNatClampNeg)) 1) (a1.toNatClampNeg)) 0) = 0) ∨ (((gw_i w (bw_rf (bw_rf (bw_rf 30 (a0.toNatClampNeg)) 1) (a1.toNatClampNeg)) 0) = 3) ∨ ((gw_i w (bw_rf (bw_rf (bw_rf 30 (a0.toNatClampNeg)) 1) (a1.toNatClampNeg)) 0) = 4)))) = v ∧ w = w1)) cv_BentWords_405 hs9 rfl (fs_X8_hasThreeNumbers (d := d + 1) (sp := (bw_rf (bw_rf (bw_rf 30 (a0.toNatClampNeg)) 1) (a1.toNatClampNeg)))  hs9 ⟨rfl, rfl⟩) rfl rfl (Nat.le_of_ble_eq_true rfl) dX11_step_110 (fun v w1 hv => ?_)
            obtain ⟨rfl, rfl⟩ := hv
            refine bw_ifb_eq (tgt := 124) dX11_step_113 (by decide) (fun c => ?_) (fun c => ?_)
            · replace h := h.1 (of_decide_eq_false c)
              refine bw_ldcw ki_BentWords_345 dX11_step_124 ?_
              exact bw_ireturn dX11_step_127 rfl rfl ⟨_, rfl, h⟩
            · replace h := h.2 (of_decide_eq_true c)
              refine bw_aload dX11_step_116 rfl ?_
              refine bw_geti fg_BentWords_391 hs9 dX11_step_118 ?_
              refine bw_goto (tgt := 127) dX11_step_121 (by decide) ?_
              exact bw_ireturn dX11_step_127 rfl rfl ⟨_, rfl, h⟩
          | 4, _, hx =>
            replace h := h.2.2.2.2.1 (bw_ti hx (by decide))
            refine bw_aload dX11_step_128 rfl ?_
            obtain ⟨hs10, h⟩ := h
            refine bw_getl fg_BentWords_394 hs10 dX11_step_130 ?_
            obtain ⟨Q11, hr, h⟩ := h
            refine bw_cSi (As := [.long (gw_l w (bw_rf (bw_rf (bw_rf 30 (a0.toNatClampNeg)) 1) (a1.toNatClampNeg)) 4)]) (st := []) cs_BentWords_193 hr rfl rfl (Nat.le_of_ble_eq_true rfl) dX11_step_133 (fun v12 w13 hv => ?_)
            replace h := h v12 w13 hv
            clear hr
            exact bw_ireturn dX11_step_136 rfl rfl ⟨_, rfl, h⟩
          | j + 5, hj, _ => exact absurd hj (by simp)
        · replace h := h.2.2.2.2.2 hx
          refine bw_ldcw ki_BentWords_345 dX11_step_137 ?_
          exact bw_ireturn dX11_step_140 rfl rfl ⟨_, rfl, h⟩
      · replace h := h.2 (c)
        refine bw_ldcw ki_BentWords_345 dX11_step_25 ?_
        exact bw_ireturn dX11_step_28 rfl rfl ⟨_, rfl, h⟩
theorem wfX11_nounOfFewestForms_4 {E : bw_E} {d : Nat} {w : bw_W} {Q : Int32 → bw_W → Prop} {l1 : Int32} {l2 : Int32}  (h : (((gw_i w 18 0) ≤ l2 → Q l1 w) ∧ (¬ ((gw_i w 18 0) ≤ l2) → (∃ Q1 : Int32 → bw_W → Prop, bw_ri E (d + 1) mX11_formsToldOf [.ref 0, .int l2] w Q1 ∧ ∀ v2 w3, Q1 v2 w3 →
(∃ Q4 : Int32 → bw_W → Prop, bw_ri E (d + 1) mX11_formsToldOf [.ref 0, .int l1] w3 Q4 ∧ ∀ v5 w6, Q4 v5 w6 →
((v5 ≤ v2 → bw_G E (d + 2) mX11_nounOfFewestForms 4 [some (.ref 0), some (.int l1), some (.int (l2 + 1))] [] w6 (bw_qi Q)) ∧ (¬ (v5 ≤ v2) → bw_G E (d + 2) mX11_nounOfFewestForms 4 [some (.ref 0), some (.int l2), some (.int (l2 + 1))] [] w6 (bw_qi Q)))))))) : bw_G E (d + 2) mX11_nounOfFewestForms 4 [some (.ref 0), some (.int l1), some (.int l2)] [] w (bw_qi Q) := by
  refine bw_iload_n (i := 2) dX11_nounOfFewestForms_4 rfl rfl ?_
  refine bw_aload_n (i := 0) dX11_nounOfFewestForms_5 rfl rfl ?_
  refine bw_getr (r := 18) fg_BentWords_44 rfl rfl dX11_nounOfFewestForms_6 ?_
  refine bw_geti fg_BentWords_153 rfl dX11_nounOfFewestForms_9 ?_
  refine bw_icmp_ge (tgt := 36) dX11_nounOfFewestForms_12 (by decide) (fun c => ?_) (fun c => ?_)
  · replace h := h.1 (c)
    refine bw_iload_n (i := 1) dX11_nounOfFewestForms_36 rfl rfl ?_
    exact bw_ireturn dX11_nounOfFewestForms_37 rfl rfl ⟨_, rfl, h⟩
  · replace h := h.2 (c)
    refine bw_aload_n (i := 0) dX11_nounOfFewestForms_15 rfl rfl ?_
    refine bw_iload_n (i := 2) dX11_nounOfFewestForms_16 rfl rfl ?_
    obtain ⟨Q1, hr, h⟩ := h
    refine bw_cVi (As := [.int l2]) (st := []) cv_BentWords_197 rfl rfl hr rfl rfl (Nat.le_of_ble_eq_true rfl) dX11_nounOfFewestForms_17 (fun v2 w3 hv => ?_)
    replace h := h v2 w3 hv
    clear hr
    refine bw_aload_n (i := 0) dX11_nounOfFewestForms_20 rfl rfl ?_
    refine bw_iload_n (i := 1) dX11_nounOfFewestForms_21 rfl rfl ?_
    obtain ⟨Q4, hr, h⟩ := h
    refine bw_cVi (As := [.int l1]) (st := [.int v2]) cv_BentWords_197 rfl rfl hr rfl rfl (Nat.le_of_ble_eq_true rfl) dX11_nounOfFewestForms_22 (fun v5 w6 hv => ?_)
    replace h := h v5 w6 hv
    clear hr
    refine bw_icmp_ge (tgt := 30) dX11_nounOfFewestForms_25 (by decide) (fun c => ?_) (fun c => ?_)
    · replace h := h.1 (c)
      refine bw_iinc (i := 2) (x := l2) (v := (l2 + 1)) (L' := [some (.ref 0), some (.int l1), some (.int (l2 + 1))]) dX11_nounOfFewestForms_30 rfl rfl (Nat.le_of_ble_eq_true rfl) rfl ?_
      refine bw_goto (tgt := 4) dX11_nounOfFewestForms_33 (by decide) ?_
      exact h
    · replace h := h.2 (c)
      refine bw_iload_n (i := 2) dX11_nounOfFewestForms_28 rfl rfl ?_
      refine bw_istore_n (i := 1) (L' := [some (.ref 0), some (.int l2), some (.int l2)]) dX11_nounOfFewestForms_29 rfl (Nat.le_of_ble_eq_true rfl) rfl ?_
      refine bw_iinc (i := 2) (x := l2) (v := (l2 + 1)) (L' := [some (.ref 0), some (.int l2), some (.int (l2 + 1))]) dX11_nounOfFewestForms_30 rfl rfl (Nat.le_of_ble_eq_true rfl) rfl ?_
      refine bw_goto (tgt := 4) dX11_nounOfFewestForms_33 (by decide) ?_
      exact h
theorem wfX11_nounOfFewestForms {E : bw_E} {d : Nat} {w : bw_W} {Q : Int32 → bw_W → Prop}   (h : bw_G E (d + 2) mX11_nounOfFewestForms 4 [some (.ref 0), some (.int 0), some (.int 1)] [] w (bw_qi Q)) : bw_ri E (d + 2) mX11_nounOfFewestForms [.ref 0] w Q := by
  refine bw_enter rfl (Nat.le_of_ble_eq_true rfl) ?_
  refine bw_iconst (v := 0) dX11_nounOfFewestForms_0 (by decide) ?_
  refine bw_istore_n (i := 1) (L' := [some (.ref 0), some (.int 0), none]) dX11_nounOfFewestForms_1 rfl (Nat.le_of_ble_eq_true rfl) rfl ?_
  refine bw_iconst (v := 1) dX11_nounOfFewestForms_2 (by decide) ?_
  refine bw_istore_n (i := 2) (L' := [some (.ref 0), some (.int 0), some (.int 1)]) dX11_nounOfFewestForms_3 rfl (Nat.le_of_ble_eq_true rfl) rfl ?_
  exact h
theorem wfX11_count {E : bw_E} {d : Nat} {w : bw_W} {Q : Int32 → bw_W → Prop} {a0 : Int32}  (h : ((a0 = 0 → Q (gw_i w 18 0) w) ∧ (a0 = 1 → Q (gw_i w 0 7) w) ∧ (a0 = 2 → Q (gw_i w 1 1) w) ∧ (a0 = 3 → Q (vX2_logged w ) w) ∧ (a0 = 4 → Q (gw_i w 37 4) w) ∧ (a0.toInt < 0 ∨ 4 < a0.toInt → Q (-1000000) w))) : bw_ri E (d + 2) mX11_count [.ref 0, .int a0] w Q := by
  refine bw_enter rfl (Nat.le_of_ble_eq_true rfl) ?_
  refine bw_iload_n (i := 1) dX11_count_0 rfl rfl ?_
  refine bw_tabsw dX11_count_1 [36, 44, 49, 57, 65] 73 (by decide) rfl rfl (fun j hj hx => ?_) (fun hx => ?_)
  · match j, hj, hx with
    | 0, _, hx =>
      replace h := h.1 (bw_ti hx (by decide))
      refine bw_aload_n (i := 0) dX11_count_36 rfl rfl ?_
      refine bw_getr (r := 18) fg_BentWords_44 rfl rfl dX11_count_37 ?_
      refine bw_geti fg_BentWords_153 rfl dX11_count_40 ?_
      exact bw_ireturn dX11_count_43 rfl rfl ⟨_, rfl, h⟩
    | 1, _, hx =>
      replace h := h.2.1 (bw_ti hx (by decide))
      refine bw_aload_n (i := 0) dX11_count_44 rfl rfl ?_
      refine bw_geti fg_BentWords_121 rfl dX11_count_45 ?_
      exact bw_ireturn dX11_count_48 rfl rfl ⟨_, rfl, h⟩
    | 2, _, hx =>
      replace h := h.2.2.1 (bw_ti hx (by decide))
      refine bw_aload_n (i := 0) dX11_count_49 rfl rfl ?_
      refine bw_getr (r := 1) fg_BentWords_12 rfl rfl dX11_count_50 ?_
      refine bw_geti fg_BentWords_109 rfl dX11_count_53 ?_
      exact bw_ireturn dX11_count_56 rfl rfl ⟨_, rfl, h⟩
    | 3, _, hx =>
      replace h := h.2.2.2.1 (bw_ti hx (by decide))
      refine bw_aload_n (i := 0) dX11_count_57 rfl rfl ?_
      refine bw_getr (r := 37) fg_BentWords_77 rfl rfl dX11_count_58 ?_
      refine bw_cVi (As := []) (st := []) (Q' := (fun v w1 => (vX2_logged w ) = v ∧ w = w1)) cv_BentWords_342 rfl rfl (fs_X2_logged (d := d + 0)   ⟨rfl, rfl⟩) rfl rfl (Nat.le_of_ble_eq_true rfl) dX11_count_61 (fun v w1 hv => ?_)
      obtain ⟨rfl, rfl⟩ := hv
      exact bw_ireturn dX11_count_64 rfl rfl ⟨_, rfl, h⟩
    | 4, _, hx =>
      replace h := h.2.2.2.2.1 (bw_ti hx (by decide))
      refine bw_aload_n (i := 0) dX11_count_65 rfl rfl ?_
      refine bw_getr (r := 37) fg_BentWords_77 rfl rfl dX11_count_66 ?_
      refine bw_geti fg_BentWords_336 rfl dX11_count_69 ?_
      exact bw_ireturn dX11_count_72 rfl rfl ⟨_, rfl, h⟩
    | j + 5, hj, _ => exact absurd hj (by simp)
  · replace h := h.2.2.2.2.2 hx
    refine bw_ldcw ki_BentWords_345 dX11_count_73 ?_
    exact bw_ireturn dX11_count_76 rfl rfl ⟨_, rfl, h⟩
theorem wfX11_lettersOrOne {E : bw_E} {d : Nat} {w : bw_W} {Q : Int32 → bw_W → Prop} {a0 : Int64} {a1 : Int32}  (h : (∃ Q1 : Int32 → bw_W → Prop, bw_ri E (d + 1) mX11_lettersOf [.long a0] w Q1 ∧ ∀ v2 w3, Q1 v2 w3 →
((¬ a1 = (-1) → ((a1 < 0 → Q (-1) w3) ∧ (¬ (a1 < 0) → ((v2 ≤ a1 → Q (-1) w3) ∧ (¬ (v2 ≤ a1) → Q (vX11_letterOf a0 a1) w3))))) ∧ (a1 = (-1) → Q v2 w3)))) : bw_ri E (d + 2) mX11_lettersOrOne [.long a0, .int a1] w Q := by
  refine bw_enter rfl (Nat.le_of_ble_eq_true rfl) ?_
  refine bw_lload_n (i := 0) dX11_lettersOrOne_0 rfl rfl ?_
  obtain ⟨Q1, hr, h⟩ := h
  refine bw_cSi (As := [.long a0]) (st := []) cs_BentWords_193 hr rfl rfl (Nat.le_of_ble_eq_true rfl) dX11_lettersOrOne_1 (fun v2 w3 hv => ?_)
  replace h := h v2 w3 hv
  clear hr
  refine bw_istore_n (i := 3) (L' := [some (.long a0), none, some (.int a1), some (.int v2)]) dX11_lettersOrOne_4 rfl (Nat.le_of_ble_eq_true rfl) rfl ?_
  refine bw_iload_n (i := 2) dX11_lettersOrOne_5 rfl rfl ?_
  refine bw_iconst (v := (-1)) dX11_lettersOrOne_6 (by decide) ?_
  refine bw_icmp_ne (tgt := 12) dX11_lettersOrOne_7 (by decide) (fun c => ?_) (fun c => ?_)
  · replace h := h.1 (c)
    refine bw_iload_n (i := 2) dX11_lettersOrOne_12 rfl rfl ?_
    refine bw_if_lt (tgt := 29) dX11_lettersOrOne_13 (by decide) (fun c => ?_) (fun c => ?_)
    · replace h := h.1 (c)
      refine bw_iconst (v := (-1)) dX11_lettersOrOne_29 (by decide) ?_
      exact bw_ireturn dX11_lettersOrOne_30 rfl rfl ⟨_, rfl, h⟩
    · replace h := h.2 (c)
      refine bw_iload_n (i := 2) dX11_lettersOrOne_16 rfl rfl ?_
      refine bw_iload_n (i := 3) dX11_lettersOrOne_17 rfl rfl ?_
      refine bw_icmp_ge (tgt := 29) dX11_lettersOrOne_18 (by decide) (fun c => ?_) (fun c => ?_)
      · replace h := h.1 (c)
        refine bw_iconst (v := (-1)) dX11_lettersOrOne_29 (by decide) ?_
        exact bw_ireturn dX11_lettersOrOne_30 rfl rfl ⟨_, rfl, h⟩
      · replace h := h.2 (c)
        refine bw_lload_n (i := 0) dX11_lettersOrOne_21 rfl rfl ?_
        refine bw_iload_n (i := 2) dX11_lettersOrOne_22 rfl rfl ?_
        refine bw_cSi (As := [.long a0, .int a1]) (st := []) (Q' := (fun v w1 => (vX11_letterOf a0 a1) = v ∧ w3 = w1)) cs_BentWords_433 (fs_X11_letterOf (d := d + 1) (a0 := a0) (a1 := a1)  ⟨rfl, rfl⟩) rfl rfl (Nat.le_of_ble_eq_true rfl) dX11_lettersOrOne_23 (fun v w1 hv => ?_)
        obtain ⟨rfl, rfl⟩ := hv
        refine bw_goto (tgt := 30) dX11_lettersOrOne_26 (by decide) ?_
        exact bw_ireturn dX11_lettersOrOne_30 rfl rfl ⟨_, rfl, h⟩
  · replace h := h.2 (c)
    refine bw_iload_n (i := 3) dX11_lettersOrOne_10 rfl rfl ?_
    exact bw_ireturn dX11_lettersOrOne_11 rfl rfl ⟨_, rfl, h⟩
theorem wfX12_next_0 {E : bw_E} {d : Nat} {w : bw_W} {Q : bw_W → Prop}   (h : (((¬ ((gw_i w 50 2) ≤ (gw_i w 50 3))) → (vp_in (gw_i w 50 3) 480))) ∧
((¬ (vX12_here w ) = 32 → (((¬ ((gw_i (sw_i w 50 5 (gw_i w 50 3)) 50 2) ≤ (gw_i (sw_i w 50 5 (gw_i w 50 3)) 50 3))) → (vp_in (gw_i (sw_i w 50 5 (gw_i w 50 3)) 50 3) 480))) ∧
((¬ (vX12_here (sw_i w 50 5 (gw_i w 50 3)) ) = (-1) → ((¬ ((¬ ((vX12_here (sw_i w 50 5 (gw_i w 50 3)) ) < 97)) ∧ (¬ (122 < (vX12_here (sw_i w 50 5 (gw_i w 50 3)) )))) → ((¬ ((¬ ((vX12_here (sw_i w 50 5 (gw_i w 50 3)) ) < 48)) ∧ (¬ (57 < (vX12_here (sw_i w 50 5 (gw_i w 50 3)) )))) → Q (sw_i (sw_i (sw_i (sw_i w 50 5 (gw_i w 50 3)) 50 3 ((gw_i w 50 3) + 1)) 50 4 3) 50 8 (vX12_here (sw_i w 50 5 (gw_i w 50 3)) ))) ∧ ((¬ ((vX12_here (sw_i w 50 5 (gw_i w 50 3)) ) < 48)) ∧ (¬ (57 < (vX12_here (sw_i w 50 5 (gw_i w 50 3)) ))) → (∃ Q3 : bw_W → Prop, bw_rv E (d + 1) mX12_readNumber [.ref 50] (sw_i w 50 5 (gw_i w 50 3)) Q3 ∧ ∀ w5, Q3 w5 →
Q w5)))) ∧ ((¬ ((vX12_here (sw_i w 50 5 (gw_i w 50 3)) ) < 97)) ∧ (¬ (122 < (vX12_here (sw_i w 50 5 (gw_i w 50 3)) ))) → (∃ Q6 : bw_W → Prop, bw_rv E (d + 1) mX12_readWord [.ref 50] (sw_i w 50 5 (gw_i w 50 3)) Q6 ∧ ∀ w8, Q6 w8 →
Q w8)))) ∧ ((vX12_here (sw_i w 50 5 (gw_i w 50 3)) ) = (-1) → Q (sw_i (sw_i w 50 5 (gw_i w 50 3)) 50 4 0)))) ∧ ((vX12_here w ) = 32 → bw_G E (d + 2) mX12_next 0 [some (.ref 50), none] [] (sw_i w 50 3 ((gw_i w 50 3) + 1)) (bw_qv Q)))) : bw_G E (d + 2) mX12_next 0 [some (.ref 50), none] [] w (bw_qv Q) := by
  refine bw_aload_n (i := 0) dX12_next_0 rfl rfl ?_
  obtain ⟨hc1, h⟩ := h
  refine bw_cVi (As := []) (st := []) (Q' := (fun v w1 => (vX12_here w ) = v ∧ w = w1)) cv_BentWordsModel_114 rfl rfl (fs_X12_here (d := d + 1)  hc1 ⟨rfl, rfl⟩) rfl rfl (Nat.le_of_ble_eq_true rfl) dX12_next_1 (fun v w1 hv => ?_)
  obtain ⟨rfl, rfl⟩ := hv
  refine bw_bipush (v := 32) dX12_next_4 (by decide) ?_
  refine bw_icmp_ne (tgt := 22) dX12_next_6 (by decide) (fun c => ?_) (fun c => ?_)
  · replace h := h.1 (c)
    refine bw_aload_n (i := 0) dX12_next_22 rfl rfl ?_
    refine bw_aload_n (i := 0) dX12_next_23 rfl rfl ?_
    refine bw_geti fg_BentWordsModel_104 rfl dX12_next_24 ?_
    refine bw_puti fp_BentWordsModel_138 rfl rfl rfl dX12_next_27 ?_
    refine bw_aload_n (i := 0) dX12_next_30 rfl rfl ?_
    obtain ⟨hc2, h⟩ := h
    refine bw_cVi (As := []) (st := []) (Q' := (fun v w1 => (vX12_here (sw_i w 50 5 (gw_i w 50 3)) ) = v ∧ (sw_i w 50 5 (gw_i w 50 3)) = w1)) cv_BentWordsModel_114 rfl rfl (fs_X12_here (d := d + 1)  hc2 ⟨rfl, rfl⟩) rfl rfl (Nat.le_of_ble_eq_true rfl) dX12_next_31 (fun v w1 hv => ?_)
    obtain ⟨rfl, rfl⟩ := hv
    refine bw_istore_n (i := 1) (L' := [some (.ref 50), some (.int (vX12_here (sw_i w 50 5 (gw_i w 50 3)) ))]) dX12_next_34 rfl (Nat.le_of_ble_eq_true rfl) rfl ?_
    refine bw_iload_n (i := 1) dX12_next_35 rfl rfl ?_
    refine bw_iconst (v := (-1)) dX12_next_36 (by decide) ?_
    refine bw_icmp_ne (tgt := 48) dX12_next_37 (by decide) (fun c => ?_) (fun c => ?_)
    · replace h := h.1 (c)
      refine bw_iload_n (i := 1) dX12_next_48 rfl rfl ?_
      refine bw_cSb (As := [.int (vX12_here (sw_i w 50 5 (gw_i w 50 3)) )]) (st := []) (Q' := (fun v w1 => (decide ((¬ ((vX12_here (sw_i w 50 5 (gw_i w 50 3)) ) < 97)) ∧ (¬ (122 < (vX12_here (sw_i w 50 5 (gw_i w 50 3)) ))))) = v ∧ (sw_i w 50 5 (gw_i w 50 3)) = w1)) cs_BentWordsModel_118 (fs_X12_isLetter (d := d + 1) (a0 := (vX12_here (sw_i w 50 5 (gw_i w 50 3)) ))  ⟨rfl, rfl⟩) rfl rfl (Nat.le_of_ble_eq_true rfl) dX12_next_49 (fun v w1 hv => ?_)
      obtain ⟨rfl, rfl⟩ := hv
      refine bw_ifb_eq (tgt := 62) dX12_next_52 (by decide) (fun c => ?_) (fun c => ?_)
      · replace h := h.1 (of_decide_eq_false c)
        refine bw_iload_n (i := 1) dX12_next_62 rfl rfl ?_
        refine bw_cSb (As := [.int (vX12_here (sw_i w 50 5 (gw_i w 50 3)) )]) (st := []) (Q' := (fun v w1 => (decide ((¬ ((vX12_here (sw_i w 50 5 (gw_i w 50 3)) ) < 48)) ∧ (¬ (57 < (vX12_here (sw_i w 50 5 (gw_i w 50 3)) ))))) = v ∧ (sw_i w 50 5 (gw_i w 50 3)) = w1)) cs_BentWordsModel_135 (fs_X12_isDigit (d := d + 1) (a0 := (vX12_here (sw_i w 50 5 (gw_i w 50 3)) ))  ⟨rfl, rfl⟩) rfl rfl (Nat.le_of_ble_eq_true rfl) dX12_next_63 (fun v w1 hv => ?_)
        obtain ⟨rfl, rfl⟩ := hv
        refine bw_ifb_eq (tgt := 76) dX12_next_66 (by decide) (fun c => ?_) (fun c => ?_)
        · replace h := h.1 (of_decide_eq_false c)
          refine bw_aload_n (i := 0) dX12_next_76 rfl rfl ?_
          refine bw_dup dX12_next_77 rfl ?_
          refine bw_geti fg_BentWordsModel_104 rfl dX12_next_78 ?_
          rw [show gw_i (sw_i w 50 5 (gw_i w 50 3)) 50 3 = (gw_i w 50 3) from rfl]
          refine bw_iconst (v := 1) dX12_next_81 (by decide) ?_
          refine bw_iadd dX12_next_82 ?_
          refine bw_puti fp_BentWordsModel_104 rfl rfl rfl dX12_next_83 ?_
          refine bw_aload_n (i := 0) dX12_next_86 rfl rfl ?_
          refine bw_iconst (v := 3) dX12_next_87 (by decide) ?_
          refine bw_puti fp_BentWordsModel_126 rfl rfl rfl dX12_next_88 ?_
          refine bw_aload_n (i := 0) dX12_next_91 rfl rfl ?_
          refine bw_iload_n (i := 1) dX12_next_92 rfl rfl ?_
          refine bw_puti fp_BentWordsModel_147 rfl rfl rfl dX12_next_93 ?_
          exact bw_return dX12_next_96 rfl ⟨rfl, h⟩
        · replace h := h.2 (of_decide_eq_true c)
          refine bw_aload_n (i := 0) dX12_next_69 rfl rfl ?_
          obtain ⟨Q3, hr, h⟩ := h
          refine bw_cVv (As := []) (st := []) cv_BentWordsModel_144 rfl rfl hr rfl rfl (Nat.le_of_ble_eq_true rfl) dX12_next_70 (fun w5 hv => ?_)
          replace h := h w5 hv
          clear hr
          refine bw_goto (tgt := 96) dX12_next_73 (by decide) ?_
          exact bw_return dX12_next_96 rfl ⟨rfl, h⟩
      · replace h := h.2 (of_decide_eq_true c)
        refine bw_aload_n (i := 0) dX12_next_55 rfl rfl ?_
        obtain ⟨Q6, hr, h⟩ := h
        refine bw_cVv (As := []) (st := []) cv_BentWordsModel_141 rfl rfl hr rfl rfl (Nat.le_of_ble_eq_true rfl) dX12_next_56 (fun w8 hv => ?_)
        replace h := h w8 hv
        clear hr
        refine bw_goto (tgt := 96) dX12_next_59 (by decide) ?_
        exact bw_return dX12_next_96 rfl ⟨rfl, h⟩
    · replace h := h.2 (c)
      refine bw_aload_n (i := 0) dX12_next_40 rfl rfl ?_
      refine bw_iconst (v := 0) dX12_next_41 (by decide) ?_
      refine bw_puti fp_BentWordsModel_126 rfl rfl rfl dX12_next_42 ?_
      refine bw_goto (tgt := 96) dX12_next_45 (by decide) ?_
      exact bw_return dX12_next_96 rfl ⟨rfl, h⟩
  · replace h := h.2 (c)
    refine bw_aload_n (i := 0) dX12_next_9 rfl rfl ?_
    refine bw_dup dX12_next_10 rfl ?_
    refine bw_geti fg_BentWordsModel_104 rfl dX12_next_11 ?_
    refine bw_iconst (v := 1) dX12_next_14 (by decide) ?_
    refine bw_iadd dX12_next_15 ?_
    refine bw_puti fp_BentWordsModel_104 rfl rfl rfl dX12_next_16 ?_
    refine bw_goto (tgt := 0) dX12_next_19 (by decide) ?_
    exact h
theorem wfX12_next {E : bw_E} {d : Nat} {w : bw_W} {Q : bw_W → Prop}   (h : bw_G E (d + 2) mX12_next 0 [some (.ref 50), none] [] w (bw_qv Q)) : bw_rv E (d + 2) mX12_next [.ref 50] w Q := by
  refine bw_enter rfl (Nat.le_of_ble_eq_true rfl) ?_
  exact h
theorem wfX12_nounHere_2 {E : bw_E} {d : Nat} {w : bw_W} {Q : Int32 → bw_W → Prop} {l1 : Int32}  (h : (((gw_i w 50 20) ≤ l1 → Q (-1) w) ∧ (¬ ((gw_i w 50 20) ≤ l1) → (vp_in l1 6) ∧
((¬ (((gw_i w 50 10) = (-1)) ∧ ((((gw_i w 50 4) = 1) ∧ (¬ (8 < (gw_i w 50 9)))) ∧ ((gw_l w 50 11) = (gw_l w 52 (l1.toNatClampNeg))))) → bw_G E (d + 2) mX12_nounHere 2 [some (.ref 50), some (.int (l1 + 1))] [] w (bw_qi Q)) ∧ (((gw_i w 50 10) = (-1)) ∧ ((((gw_i w 50 4) = 1) ∧ (¬ (8 < (gw_i w 50 9)))) ∧ ((gw_l w 50 11) = (gw_l w 52 (l1.toNatClampNeg)))) → Q l1 w))))) : bw_G E (d + 2) mX12_nounHere 2 [some (.ref 50), some (.int l1)] [] w (bw_qi Q) := by
  refine bw_iload_n (i := 1) dX12_nounHere_2 rfl rfl ?_
  refine bw_aload_n (i := 0) dX12_nounHere_3 rfl rfl ?_
  refine bw_geti fg_BentWordsModel_174 rfl dX12_nounHere_4 ?_
  refine bw_icmp_ge (tgt := 31) dX12_nounHere_7 (by decide) (fun c => ?_) (fun c => ?_)
  · replace h := h.1 (c)
    refine bw_iconst (v := (-1)) dX12_nounHere_31 (by decide) ?_
    exact bw_ireturn dX12_nounHere_32 rfl rfl ⟨_, rfl, h⟩
  · replace h := h.2 (c)
    refine bw_aload_n (i := 0) dX12_nounHere_10 rfl rfl ?_
    refine bw_aload_n (i := 0) dX12_nounHere_11 rfl rfl ?_
    refine bw_getr (r := 52) fg_BentWordsModel_13 rfl rfl dX12_nounHere_12 ?_
    refine bw_iload_n (i := 1) dX12_nounHere_15 rfl rfl ?_
    obtain ⟨hi1, h⟩ := h
    refine bw_laload rfl hi1 dX12_nounHere_16 ?_
    refine bw_cVb (As := [.long (gw_l w 52 (l1.toNatClampNeg))]) (st := []) (Q' := (fun v w1 => (decide (((gw_i w 50 10) = (-1)) ∧ ((((gw_i w 50 4) = 1) ∧ (¬ (8 < (gw_i w 50 9)))) ∧ ((gw_l w 50 11) = (gw_l w 52 (l1.toNatClampNeg)))))) = v ∧ w = w1)) cv_BentWordsModel_177 rfl rfl (fs_X12_isWord (d := d + 0) (a0 := (gw_l w 52 (l1.toNatClampNeg)))  ⟨rfl, rfl⟩) rfl rfl (Nat.le_of_ble_eq_true rfl) dX12_nounHere_17 (fun v w1 hv => ?_)
    obtain ⟨rfl, rfl⟩ := hv
    refine bw_ifb_eq (tgt := 25) dX12_nounHere_20 (by decide) (fun c => ?_) (fun c => ?_)
    · replace h := h.1 (of_decide_eq_false c)
      refine bw_iinc (i := 1) (x := l1) (v := (l1 + 1)) (L' := [some (.ref 50), some (.int (l1 + 1))]) dX12_nounHere_25 rfl rfl (Nat.le_of_ble_eq_true rfl) rfl ?_
      refine bw_goto (tgt := 2) dX12_nounHere_28 (by decide) ?_
      exact h
    · replace h := h.2 (of_decide_eq_true c)
      refine bw_iload_n (i := 1) dX12_nounHere_23 rfl rfl ?_
      exact bw_ireturn dX12_nounHere_24 rfl rfl ⟨_, rfl, h⟩
theorem wfX12_nounHere {E : bw_E} {d : Nat} {w : bw_W} {Q : Int32 → bw_W → Prop}   (h : bw_G E (d + 2) mX12_nounHere 2 [some (.ref 50), some (.int 0)] [] w (bw_qi Q)) : bw_ri E (d + 2) mX12_nounHere [.ref 50] w Q := by
  refine bw_enter rfl (Nat.le_of_ble_eq_true rfl) ?_
  refine bw_iconst (v := 0) dX12_nounHere_0 (by decide) ?_
  refine bw_istore_n (i := 1) (L' := [some (.ref 50), some (.int 0)]) dX12_nounHere_1 rfl (Nat.le_of_ble_eq_true rfl) rfl ?_
  exact h
theorem wfX12_isTitleHere_2 {E : bw_E} {d : Nat} {w : bw_W} {Q : Bool → bw_W → Prop} {l1 : Int32}  (h : (((gw_i w 50 21) ≤ l1 → Q false w) ∧ (¬ ((gw_i w 50 21) ≤ l1) → (vp_in l1 4) ∧
((¬ (((gw_i w 50 10) = (-1)) ∧ ((((gw_i w 50 4) = 1) ∧ (¬ (8 < (gw_i w 50 9)))) ∧ ((gw_l w 50 11) = (gw_l w 56 (l1.toNatClampNeg))))) → bw_G E (d + 2) mX12_isTitleHere 2 [some (.ref 50), some (.int (l1 + 1))] [] w (bw_qb Q)) ∧ (((gw_i w 50 10) = (-1)) ∧ ((((gw_i w 50 4) = 1) ∧ (¬ (8 < (gw_i w 50 9)))) ∧ ((gw_l w 50 11) = (gw_l w 56 (l1.toNatClampNeg)))) → Q true w))))) : bw_G E (d + 2) mX12_isTitleHere 2 [some (.ref 50), some (.int l1)] [] w (bw_qb Q) := by
  refine bw_iload_n (i := 1) dX12_isTitleHere_2 rfl rfl ?_
  refine bw_aload_n (i := 0) dX12_isTitleHere_3 rfl rfl ?_
  refine bw_geti fg_BentWordsModel_181 rfl dX12_isTitleHere_4 ?_
  refine bw_icmp_ge (tgt := 31) dX12_isTitleHere_7 (by decide) (fun c => ?_) (fun c => ?_)
  · replace h := h.1 (c)
    refine bw_iconst (v := 0) dX12_isTitleHere_31 (by decide) ?_
    exact bw_ireturn dX12_isTitleHere_32 rfl (bw_nb false) ⟨false, rfl, h⟩
  · replace h := h.2 (c)
    refine bw_aload_n (i := 0) dX12_isTitleHere_10 rfl rfl ?_
    refine bw_aload_n (i := 0) dX12_isTitleHere_11 rfl rfl ?_
    refine bw_getr (r := 56) fg_BentWordsModel_26 rfl rfl dX12_isTitleHere_12 ?_
    refine bw_iload_n (i := 1) dX12_isTitleHere_15 rfl rfl ?_
    obtain ⟨hi1, h⟩ := h
    refine bw_laload rfl hi1 dX12_isTitleHere_16 ?_
    refine bw_cVb (As := [.long (gw_l w 56 (l1.toNatClampNeg))]) (st := []) (Q' := (fun v w1 => (decide (((gw_i w 50 10) = (-1)) ∧ ((((gw_i w 50 4) = 1) ∧ (¬ (8 < (gw_i w 50 9)))) ∧ ((gw_l w 50 11) = (gw_l w 56 (l1.toNatClampNeg)))))) = v ∧ w = w1)) cv_BentWordsModel_177 rfl rfl (fs_X12_isWord (d := d + 0) (a0 := (gw_l w 56 (l1.toNatClampNeg)))  ⟨rfl, rfl⟩) rfl rfl (Nat.le_of_ble_eq_true rfl) dX12_isTitleHere_17 (fun v w1 hv => ?_)
    obtain ⟨rfl, rfl⟩ := hv
    refine bw_ifb_eq (tgt := 25) dX12_isTitleHere_20 (by decide) (fun c => ?_) (fun c => ?_)
    · replace h := h.1 (of_decide_eq_false c)
      refine bw_iinc (i := 1) (x := l1) (v := (l1 + 1)) (L' := [some (.ref 50), some (.int (l1 + 1))]) dX12_isTitleHere_25 rfl rfl (Nat.le_of_ble_eq_true rfl) rfl ?_
      refine bw_goto (tgt := 2) dX12_isTitleHere_28 (by decide) ?_
      exact h
    · replace h := h.2 (of_decide_eq_true c)
      refine bw_iconst (v := 1) dX12_isTitleHere_23 (by decide) ?_
      exact bw_ireturn dX12_isTitleHere_24 rfl (bw_nb true) ⟨true, rfl, h⟩
theorem wfX12_isTitleHere {E : bw_E} {d : Nat} {w : bw_W} {Q : Bool → bw_W → Prop}   (h : bw_G E (d + 2) mX12_isTitleHere 2 [some (.ref 50), some (.int 0)] [] w (bw_qb Q)) : bw_rb E (d + 2) mX12_isTitleHere [.ref 50] w Q := by
  refine bw_enter rfl (Nat.le_of_ble_eq_true rfl) ?_
  refine bw_iconst (v := 0) dX12_isTitleHere_0 (by decide) ?_
  refine bw_istore_n (i := 1) (L' := [some (.ref 50), some (.int 0)]) dX12_isTitleHere_1 rfl (Nat.le_of_ble_eq_true rfl) rfl ?_
  exact h
theorem wfX12_ends {E : bw_E} {d : Nat} {w : bw_W} {Q : Int32 → bw_W → Prop}   (h : ((¬ (gw_i w 50 10) = (-1) → Q (gw_i w 50 10) w) ∧ ((gw_i w 50 10) = (-1) → (((gw_i w 50 4) = 0 → Q (gw_i w 50 10) w) ∧ (¬ ((gw_i w 50 4) = 0) → Q (if ¬ (gw_i w 50 10) = (-1) then (gw_i w 50 10) else (gw_i w 50 5)) (sw_i w 50 10 (if ¬ (gw_i w 50 10) = (-1) then (gw_i w 50 10) else (gw_i w 50 5)))))))) : bw_ri E (d + 2) mX12_ends [.ref 50] w Q := by
  refine bw_enter rfl (Nat.le_of_ble_eq_true rfl) ?_
  refine bw_aload_n (i := 0) dX12_ends_0 rfl rfl ?_
  refine bw_geti fg_BentWordsModel_150 rfl dX12_ends_1 ?_
  refine bw_iconst (v := (-1)) dX12_ends_4 (by decide) ?_
  refine bw_icmp_ne (tgt := 19) dX12_ends_5 (by decide) (fun c => ?_) (fun c => ?_)
  · replace h := h.1 (c)
    refine bw_aload_n (i := 0) dX12_ends_19 rfl rfl ?_
    refine bw_geti fg_BentWordsModel_150 rfl dX12_ends_20 ?_
    exact bw_ireturn dX12_ends_23 rfl rfl ⟨_, rfl, h⟩
  · replace h := h.2 (c)
    refine bw_aload_n (i := 0) dX12_ends_8 rfl rfl ?_
    refine bw_geti fg_BentWordsModel_126 rfl dX12_ends_9 ?_
    refine bw_if_eq (tgt := 19) dX12_ends_12 (by decide) (fun c => ?_) (fun c => ?_)
    · replace h := h.1 (c)
      refine bw_aload_n (i := 0) dX12_ends_19 rfl rfl ?_
      refine bw_geti fg_BentWordsModel_150 rfl dX12_ends_20 ?_
      exact bw_ireturn dX12_ends_23 rfl rfl ⟨_, rfl, h⟩
    · replace h := h.2 (c)
      refine bw_aload_n (i := 0) dX12_ends_15 rfl rfl ?_
      refine bw_cVv (As := []) (st := []) (Q' := (fun w1 => (sw_i w 50 10 (if ¬ (gw_i w 50 10) = (-1) then (gw_i w 50 10) else (gw_i w 50 5))) = w1)) cv_BentWordsModel_167 rfl rfl (fs_X12_bad (d := d + 0)   rfl) rfl rfl (Nat.le_of_ble_eq_true rfl) dX12_ends_16 (fun w1 hv => ?_)
      subst hv
      refine bw_aload_n (i := 0) dX12_ends_19 rfl rfl ?_
      refine bw_geti fg_BentWordsModel_150 rfl dX12_ends_20 ?_
      rw [show gw_i (sw_i w 50 10 (if ¬ (gw_i w 50 10) = (-1) then (gw_i w 50 10) else (gw_i w 50 5))) 50 10 = (if ¬ (gw_i w 50 10) = (-1) then (gw_i w 50 10) else (gw_i w 50 5)) from rfl]
      exact bw_ireturn dX12_ends_23 rfl rfl ⟨_, rfl, h⟩
theorem wfX12_defaultOf {E : bw_E} {d : Nat} {w : bw_W} {Q : Int32 → bw_W → Prop} {a0 : Int32} {a1 : Int32} {a2 : Int32}  (h : (((vp_in ((7 + (8 * a0)) + ((2 * a1) + a2)) 236))) ∧
(((vX12_told w a0 a1 a2) = 0 → (((vp_in ((7 + (8 * a0)) + ((2 * 0) + a2)) 236))) ∧
(((vX12_told w a0 0 a2) = 0 → (((vp_in ((7 + (8 * a0)) + ((2 * a1) + 0)) 236))) ∧
(((vX12_told w a0 a1 0) = 0 → (((vp_in ((7 + (8 * a0)) + ((2 * 0) + 0)) 236))) ∧
(((vX12_told w a0 0 0) = 0 → Q 4 w) ∧ (¬ (vX12_told w a0 0 0) = 0 → Q 3 w))) ∧ (¬ (vX12_told w a0 a1 0) = 0 → Q 2 w))) ∧ (¬ (vX12_told w a0 0 a2) = 0 → Q 1 w))) ∧ (¬ (vX12_told w a0 a1 a2) = 0 → Q 0 w))) : bw_ri E (d + 2) mX12_defaultOf [.ref 50, .int a0, .int a1, .int a2] w Q := by
  refine bw_enter rfl (Nat.le_of_ble_eq_true rfl) ?_
  refine bw_aload_n (i := 0) dX12_defaultOf_0 rfl rfl ?_
  refine bw_iload_n (i := 1) dX12_defaultOf_1 rfl rfl ?_
  refine bw_iload_n (i := 2) dX12_defaultOf_2 rfl rfl ?_
  refine bw_iload_n (i := 3) dX12_defaultOf_3 rfl rfl ?_
  obtain ⟨hc1, h⟩ := h
  refine bw_cVl (As := [.int a0, .int a1, .int a2]) (st := []) (Q' := (fun v w1 => (vX12_told w a0 a1 a2) = v ∧ w = w1)) cv_BentWordsModel_296 rfl rfl (fs_X12_told (d := d + 0) (a0 := a0) (a1 := a1) (a2 := a2) hc1 ⟨rfl, rfl⟩) rfl rfl (Nat.le_of_ble_eq_true rfl) dX12_defaultOf_4 (fun v w1 hv => ?_)
  obtain ⟨rfl, rfl⟩ := hv
  refine bw_lconst (v := 0) dX12_defaultOf_7 rfl ?_
  refine bw_lcmp_eq (tgt := 14) dX12_defaultOf_8 dX12_defaultOf_9 (by decide) (fun c => ?_) (fun c => ?_)
  · replace h := h.1 (c)
    refine bw_aload_n (i := 0) dX12_defaultOf_14 rfl rfl ?_
    refine bw_iload_n (i := 1) dX12_defaultOf_15 rfl rfl ?_
    refine bw_iconst (v := 0) dX12_defaultOf_16 (by decide) ?_
    refine bw_iload_n (i := 3) dX12_defaultOf_17 rfl rfl ?_
    obtain ⟨hc2, h⟩ := h
    refine bw_cVl (As := [.int a0, .int 0, .int a2]) (st := []) (Q' := (fun v w1 => (vX12_told w a0 0 a2) = v ∧ w = w1)) cv_BentWordsModel_296 rfl rfl (fs_X12_told (d := d + 0) (a0 := a0) (a1 := 0) (a2 := a2) hc2 ⟨rfl, rfl⟩) rfl rfl (Nat.le_of_ble_eq_true rfl) dX12_defaultOf_18 (fun v w1 hv => ?_)
    obtain ⟨rfl, rfl⟩ := hv
    refine bw_lconst (v := 0) dX12_defaultOf_21 rfl ?_
    refine bw_lcmp_eq (tgt := 28) dX12_defaultOf_22 dX12_defaultOf_23 (by decide) (fun c => ?_) (fun c => ?_)
    · replace h := h.1 (c)
      refine bw_aload_n (i := 0) dX12_defaultOf_28 rfl rfl ?_
      refine bw_iload_n (i := 1) dX12_defaultOf_29 rfl rfl ?_
      refine bw_iload_n (i := 2) dX12_defaultOf_30 rfl rfl ?_
      refine bw_iconst (v := 0) dX12_defaultOf_31 (by decide) ?_
      obtain ⟨hc3, h⟩ := h
      refine bw_cVl (As := [.int a0, .int a1, .int 0]) (st := []) (Q' := (fun v w1 => (vX12_told w a0 a1 0) = v ∧ w = w1)) cv_BentWordsModel_296 rfl rfl (fs_X12_told (d := d + 0) (a0 := a0) (a1 := a1) (a2 := 0) hc3 ⟨rfl, rfl⟩) rfl rfl (Nat.le_of_ble_eq_true rfl) dX12_defaultOf_32 (fun v w1 hv => ?_)
      obtain ⟨rfl, rfl⟩ := hv
      refine bw_lconst (v := 0) dX12_defaultOf_35 rfl ?_
      refine bw_lcmp_eq (tgt := 42) dX12_defaultOf_36 dX12_defaultOf_37 (by decide) (fun c => ?_) (fun c => ?_)
      · replace h := h.1 (c)
        refine bw_aload_n (i := 0) dX12_defaultOf_42 rfl rfl ?_
        refine bw_iload_n (i := 1) dX12_defaultOf_43 rfl rfl ?_
        refine bw_iconst (v := 0) dX12_defaultOf_44 (by decide) ?_
        refine bw_iconst (v := 0) dX12_defaultOf_45 (by decide) ?_
        obtain ⟨hc4, h⟩ := h
        refine bw_cVl (As := [.int a0, .int 0, .int 0]) (st := []) (Q' := (fun v w1 => (vX12_told w a0 0 0) = v ∧ w = w1)) cv_BentWordsModel_296 rfl rfl (fs_X12_told (d := d + 0) (a0 := a0) (a1 := 0) (a2 := 0) hc4 ⟨rfl, rfl⟩) rfl rfl (Nat.le_of_ble_eq_true rfl) dX12_defaultOf_46 (fun v w1 hv => ?_)
        obtain ⟨rfl, rfl⟩ := hv
        refine bw_lconst (v := 0) dX12_defaultOf_49 rfl ?_
        refine bw_lcmp_eq (tgt := 58) dX12_defaultOf_50 dX12_defaultOf_51 (by decide) (fun c => ?_) (fun c => ?_)
        · replace h := h.1 (c)
          refine bw_iconst (v := 4) dX12_defaultOf_58 (by decide) ?_
          exact bw_ireturn dX12_defaultOf_59 rfl rfl ⟨_, rfl, h⟩
        · replace h := h.2 (c)
          refine bw_iconst (v := 3) dX12_defaultOf_54 (by decide) ?_
          refine bw_goto (tgt := 59) dX12_defaultOf_55 (by decide) ?_
          exact bw_ireturn dX12_defaultOf_59 rfl rfl ⟨_, rfl, h⟩
      · replace h := h.2 (c)
        refine bw_iconst (v := 2) dX12_defaultOf_40 (by decide) ?_
        exact bw_ireturn dX12_defaultOf_41 rfl rfl ⟨_, rfl, h⟩
    · replace h := h.2 (c)
      refine bw_iconst (v := 1) dX12_defaultOf_26 (by decide) ?_
      exact bw_ireturn dX12_defaultOf_27 rfl rfl ⟨_, rfl, h⟩
  · replace h := h.2 (c)
    refine bw_iconst (v := 0) dX12_defaultOf_12 (by decide) ?_
    exact bw_ireturn dX12_defaultOf_13 rfl rfl ⟨_, rfl, h⟩
theorem wfX12_wordOf {E : bw_E} {d : Nat} {w : bw_W} {Q : Int64 → bw_W → Prop} {a0 : Bool} {a1 : Int32} {a2 : Int32} {a3 : Int32}  (h : (vp_in (vX12_wordAt a0 a1 a2 a3) 48) ∧
(((gw_l w 67 ((vX12_wordAt a0 a1 a2 a3).toNatClampNeg)) = 0 → (vp_in (vX12_wordAt a0 a1 a2 0) 48) ∧
Q (gw_l w 67 ((vX12_wordAt a0 a1 a2 0).toNatClampNeg)) w) ∧ (¬ (gw_l w 67 ((vX12_wordAt a0 a1 a2 a3).toNatClampNeg)) = 0 → Q (gw_l w 67 ((vX12_wordAt a0 a1 a2 a3).toNatClampNeg)) w))) : bw_rl E (d + 2) mX12_wordOf [.ref 50, .int (bw_b a0), .int a1, .int a2, .int a3] w Q := by
  refine bw_enter rfl (Nat.le_of_ble_eq_true rfl) ?_
  refine bw_aload_n (i := 0) dX12_wordOf_0 rfl rfl ?_
  refine bw_getr (r := 67) fg_BentWordsModel_59 rfl rfl dX12_wordOf_1 ?_
  refine bw_iload_n (i := 1) dX12_wordOf_4 rfl rfl ?_
  refine bw_iload_n (i := 2) dX12_wordOf_5 rfl rfl ?_
  refine bw_iload_n (i := 3) dX12_wordOf_6 rfl rfl ?_
  refine bw_iload dX12_wordOf_7 rfl ?_
  refine bw_cSi (As := [.int (bw_b a0), .int a1, .int a2, .int a3]) (st := [.ref 67]) (Q' := (fun v w1 => (vX12_wordAt a0 a1 a2 a3) = v ∧ w = w1)) cs_BentWordsModel_198 (fs_X12_wordAt (d := d + 0) (a0 := a0) (a1 := a1) (a2 := a2) (a3 := a3)  ⟨rfl, rfl⟩) rfl rfl (Nat.le_of_ble_eq_true rfl) dX12_wordOf_9 (fun v w1 hv => ?_)
  obtain ⟨rfl, rfl⟩ := hv
  obtain ⟨hi1, h⟩ := h
  refine bw_laload rfl hi1 dX12_wordOf_12 ?_
  refine bw_lstore (i := 5) (L' := [some (.ref 50), some (.int (bw_b a0)), some (.int a1), some (.int a2), some (.int a3), some (.long (gw_l w 67 ((vX12_wordAt a0 a1 a2 a3).toNatClampNeg))), none]) dX12_wordOf_13 (Nat.le_of_ble_eq_true rfl) rfl ?_
  refine bw_lload dX12_wordOf_15 rfl ?_
  refine bw_lconst (v := 0) dX12_wordOf_17 rfl ?_
  refine bw_lcmp_eq (tgt := 27) dX12_wordOf_18 dX12_wordOf_19 (by decide) (fun c => ?_) (fun c => ?_)
  · replace h := h.1 (c)
    refine bw_aload_n (i := 0) dX12_wordOf_27 rfl rfl ?_
    refine bw_getr (r := 67) fg_BentWordsModel_59 rfl rfl dX12_wordOf_28 ?_
    refine bw_iload_n (i := 1) dX12_wordOf_31 rfl rfl ?_
    refine bw_iload_n (i := 2) dX12_wordOf_32 rfl rfl ?_
    refine bw_iload_n (i := 3) dX12_wordOf_33 rfl rfl ?_
    refine bw_iconst (v := 0) dX12_wordOf_34 (by decide) ?_
    refine bw_cSi (As := [.int (bw_b a0), .int a1, .int a2, .int 0]) (st := [.ref 67]) (Q' := (fun v w1 => (vX12_wordAt a0 a1 a2 0) = v ∧ w = w1)) cs_BentWordsModel_198 (fs_X12_wordAt (d := d + 0) (a0 := a0) (a1 := a1) (a2 := a2) (a3 := 0)  ⟨rfl, rfl⟩) rfl rfl (Nat.le_of_ble_eq_true rfl) dX12_wordOf_35 (fun v w1 hv => ?_)
    obtain ⟨rfl, rfl⟩ := hv
    obtain ⟨hi2, h⟩ := h
    refine bw_laload rfl hi2 dX12_wordOf_38 ?_
    exact bw_lreturn dX12_wordOf_39 rfl ⟨_, rfl, h⟩
  · replace h := h.2 (c)
    refine bw_lload dX12_wordOf_22 rfl ?_
    refine bw_goto (tgt := 39) dX12_wordOf_24 (by decide) ?_
    exact bw_lreturn dX12_wordOf_39 rfl ⟨_, rfl, h⟩
def vX12_wordOf (w : bw_W) (a0 : Bool) (a1 : Int32) (a2 : Int32) (a3 : Int32) : Int64 := (if (gw_l w 67 ((vX12_wordAt a0 a1 a2 a3).toNatClampNeg)) = 0 then (gw_l w 67 ((vX12_wordAt a0 a1 a2 0).toNatClampNeg)) else (gw_l w 67 ((vX12_wordAt a0 a1 a2 a3).toNatClampNeg)))
theorem fs_X12_wordOf {E : bw_E} {d : Nat} {w : bw_W} {Q : Int64 → bw_W → Prop} {a0 : Bool} {a1 : Int32} {a2 : Int32} {a3 : Int32}  (hc0 : (vp_in (vX12_wordAt a0 a1 a2 a3) 48)) (hc1 : ((gw_l w 67 ((vX12_wordAt a0 a1 a2 a3).toNatClampNeg)) = 0) → (vp_in (vX12_wordAt a0 a1 a2 0) 48)) (h : Q (vX12_wordOf w a0 a1 a2 a3) w) : bw_rl E (d + 2) mX12_wordOf [.ref 50, .int (bw_b a0), .int a1, .int a2, .int a3] w Q := by
  refine wfX12_wordOf  ?_
  refine ⟨hc0 , ?_⟩
  refine ⟨fun c0 => ?_, fun c0 => ?_⟩
  · refine ⟨hc1 c0, ?_⟩
    (try simp only [vX12_wordOf, c0, if_true, if_false, ite_true, ite_false, decide_true, decide_false, true_and, and_true, false_and, and_false, not_true_eq_false, not_false_eq_true, true_or, or_true, false_or, or_false, or_self, and_self, Classical.not_not] at h) <;> exact h
  · (try simp only [vX12_wordOf, c0, if_true, if_false, ite_true, ite_false, decide_true, decide_false, true_and, and_true, false_and, and_false, not_true_eq_false, not_false_eq_true, true_or, or_true, false_or, or_false, or_self, and_self, Classical.not_not] at h) <;> exact h
theorem wfX12_isWordTold {E : bw_E} {d : Nat} {w : bw_W} {Q : Bool → bw_W → Prop} {a0 : Bool} {a1 : Int32} {a2 : Int32} {a3 : Int32}  (h : (vp_in (vX12_wordAt a0 a1 a2 a3) 48) ∧
(((gw_l w 67 ((vX12_wordAt a0 a1 a2 a3).toNatClampNeg)) = 0 → Q false w) ∧ (¬ (gw_l w 67 ((vX12_wordAt a0 a1 a2 a3).toNatClampNeg)) = 0 → Q true w))) : bw_rb E (d + 2) mX12_isWordTold [.ref 50, .int (bw_b a0), .int a1, .int a2, .int a3] w Q := by
  refine bw_enter rfl (Nat.le_of_ble_eq_true rfl) ?_
  refine bw_aload_n (i := 0) dX12_isWordTold_0 rfl rfl ?_
  refine bw_getr (r := 67) fg_BentWordsModel_59 rfl rfl dX12_isWordTold_1 ?_
  refine bw_iload_n (i := 1) dX12_isWordTold_4 rfl rfl ?_
  refine bw_iload_n (i := 2) dX12_isWordTold_5 rfl rfl ?_
  refine bw_iload_n (i := 3) dX12_isWordTold_6 rfl rfl ?_
  refine bw_iload dX12_isWordTold_7 rfl ?_
  refine bw_cSi (As := [.int (bw_b a0), .int a1, .int a2, .int a3]) (st := [.ref 67]) (Q' := (fun v w1 => (vX12_wordAt a0 a1 a2 a3) = v ∧ w = w1)) cs_BentWordsModel_198 (fs_X12_wordAt (d := d + 0) (a0 := a0) (a1 := a1) (a2 := a2) (a3 := a3)  ⟨rfl, rfl⟩) rfl rfl (Nat.le_of_ble_eq_true rfl) dX12_isWordTold_9 (fun v w1 hv => ?_)
  obtain ⟨rfl, rfl⟩ := hv
  obtain ⟨hi1, h⟩ := h
  refine bw_laload rfl hi1 dX12_isWordTold_12 ?_
  refine bw_lconst (v := 0) dX12_isWordTold_13 rfl ?_
  refine bw_lcmp_eq (tgt := 22) dX12_isWordTold_14 dX12_isWordTold_15 (by decide) (fun c => ?_) (fun c => ?_)
  · replace h := h.1 (c)
    refine bw_iconst (v := 0) dX12_isWordTold_22 (by decide) ?_
    exact bw_ireturn dX12_isWordTold_23 rfl (bw_nb false) ⟨false, rfl, h⟩
  · replace h := h.2 (c)
    refine bw_iconst (v := 1) dX12_isWordTold_18 (by decide) ?_
    refine bw_goto (tgt := 23) dX12_isWordTold_19 (by decide) ?_
    exact bw_ireturn dX12_isWordTold_23 rfl (bw_nb true) ⟨true, rfl, h⟩
theorem fs_X12_isWordTold {E : bw_E} {d : Nat} {w : bw_W} {Q : Bool → bw_W → Prop} {a0 : Bool} {a1 : Int32} {a2 : Int32} {a3 : Int32}  (hc0 : (vp_in (vX12_wordAt a0 a1 a2 a3) 48)) (h : Q (decide ((¬ (gw_l w 67 ((vX12_wordAt a0 a1 a2 a3).toNatClampNeg)) = 0))) w) : bw_rb E (d + 2) mX12_isWordTold [.ref 50, .int (bw_b a0), .int a1, .int a2, .int a3] w Q := by
  refine wfX12_isWordTold  ?_
  refine ⟨hc0 , ?_⟩
  refine ⟨fun c0 => ?_, fun c0 => ?_⟩
  · (try simp only [c0, if_true, if_false, ite_true, ite_false, decide_true, decide_false, true_and, and_true, false_and, and_false, not_true_eq_false, not_false_eq_true, true_or, or_true, false_or, or_false, or_self, and_self, Classical.not_not] at h) <;> exact h
  · (try simp only [c0, if_true, if_false, ite_true, ite_false, decide_true, decide_false, true_and, and_true, false_and, and_false, not_true_eq_false, not_false_eq_true, true_or, or_true, false_or, or_false, or_self, and_self, Classical.not_not] at h) <;> exact h
theorem wfX12_saysWord_19 {E : bw_E} {d : Nat} {w : bw_W} {Q : bw_W → Prop} {l1 : Int64} {l3 : Int32} {l4 : Int32}  (h : ((l3 ≤ l4 → Q w) ∧ (¬ (l3 ≤ l4) → (∃ Q1 : Int32 → bw_W → Prop, bw_ri E (d + 1) mX12_letterOf [.long l1, .int l4] w Q1 ∧ ∀ v2 w3, Q1 v2 w3 →
(((vp_in (gw_i w3 50 37) 200))) ∧
bw_G E (d + 2) mX12_saysWord 19 [some (.ref 50), some (.long l1), none, some (.int l3), some (.int (l4 + 1))] [] (sw_i (sw_i w3 71 ((gw_i w3 50 37).toNatClampNeg) v2) 50 37 ((gw_i w3 50 37) + 1)) (bw_qv Q))))) : bw_G E (d + 2) mX12_saysWord 19 [some (.ref 50), some (.long l1), none, some (.int l3), some (.int l4)] [] w (bw_qv Q) := by
  refine bw_iload dX12_saysWord_19 rfl ?_
  refine bw_iload_n (i := 3) dX12_saysWord_21 rfl rfl ?_
  refine bw_icmp_ge (tgt := 41) dX12_saysWord_22 (by decide) (fun c => ?_) (fun c => ?_)
  · replace h := h.1 (c)
    exact bw_return dX12_saysWord_41 rfl ⟨rfl, h⟩
  · replace h := h.2 (c)
    refine bw_aload_n (i := 0) dX12_saysWord_25 rfl rfl ?_
    refine bw_lload_n (i := 1) dX12_saysWord_26 rfl rfl ?_
    refine bw_iload dX12_saysWord_27 rfl ?_
    obtain ⟨Q1, hr, h⟩ := h
    refine bw_cSi (As := [.long l1, .int l4]) (st := [.ref 50]) cs_BentWordsModel_317 hr rfl rfl (Nat.le_of_ble_eq_true rfl) dX12_saysWord_29 (fun v2 w3 hv => ?_)
    replace h := h v2 w3 hv
    clear hr
    obtain ⟨hc4, h⟩ := h
    refine bw_cVv (As := [.int v2]) (st := []) (Q' := (fun w1 => (sw_i (sw_i w3 71 ((gw_i w3 50 37).toNatClampNeg) v2) 50 37 ((gw_i w3 50 37) + 1)) = w1)) cv_BentWordsModel_311 rfl rfl (fs_X12_says (d := d + 1) (a0 := v2) hc4 rfl) rfl rfl (Nat.le_of_ble_eq_true rfl) dX12_saysWord_32 (fun w1 hv => ?_)
    subst hv
    refine bw_iinc (i := 4) (x := l4) (v := (l4 + 1)) (L' := [some (.ref 50), some (.long l1), none, some (.int l3), some (.int (l4 + 1))]) dX12_saysWord_35 rfl rfl (Nat.le_of_ble_eq_true rfl) rfl ?_
    refine bw_goto (tgt := 19) dX12_saysWord_38 (by decide) ?_
    exact h
theorem wfX12_saysWord {E : bw_E} {d : Nat} {w : bw_W} {Q : bw_W → Prop} {a0 : Int64}  (h : ((¬ a0 = 0 → (∃ Q1 : bw_W → Prop, bw_rv E (d + 1) mX12_gap [.ref 50] w Q1 ∧ ∀ w3, Q1 w3 →
(∃ Q4 : Int32 → bw_W → Prop, bw_ri E (d + 1) mX12_lettersOf [.long a0] w3 Q4 ∧ ∀ v5 w6, Q4 v5 w6 →
bw_G E (d + 2) mX12_saysWord 19 [some (.ref 50), some (.long a0), none, some (.int v5), some (.int 0)] [] w6 (bw_qv Q)))) ∧ (a0 = 0 → Q w))) : bw_rv E (d + 2) mX12_saysWord [.ref 50, .long a0] w Q := by
  refine bw_enter rfl (Nat.le_of_ble_eq_true rfl) ?_
  refine bw_lload_n (i := 1) dX12_saysWord_0 rfl rfl ?_
  refine bw_lconst (v := 0) dX12_saysWord_1 rfl ?_
  refine bw_lcmp_ne (tgt := 7) dX12_saysWord_2 dX12_saysWord_3 (by decide) (fun c => ?_) (fun c => ?_)
  · replace h := h.1 (c)
    refine bw_aload_n (i := 0) dX12_saysWord_7 rfl rfl ?_
    obtain ⟨Q1, hr, h⟩ := h
    refine bw_cVv (As := []) (st := []) cv_BentWordsModel_314 rfl rfl hr rfl rfl (Nat.le_of_ble_eq_true rfl) dX12_saysWord_8 (fun w3 hv => ?_)
    replace h := h w3 hv
    clear hr
    refine bw_lload_n (i := 1) dX12_saysWord_11 rfl rfl ?_
    obtain ⟨Q4, hr, h⟩ := h
    refine bw_cSi (As := [.long a0]) (st := []) cs_BentWordsModel_304 hr rfl rfl (Nat.le_of_ble_eq_true rfl) dX12_saysWord_12 (fun v5 w6 hv => ?_)
    replace h := h v5 w6 hv
    clear hr
    refine bw_istore_n (i := 3) (L' := [some (.ref 50), some (.long a0), none, some (.int v5), none]) dX12_saysWord_15 rfl (Nat.le_of_ble_eq_true rfl) rfl ?_
    refine bw_iconst (v := 0) dX12_saysWord_16 (by decide) ?_
    refine bw_istore (i := 4) (L' := [some (.ref 50), some (.long a0), none, some (.int v5), some (.int 0)]) dX12_saysWord_17 (Nat.le_of_ble_eq_true rfl) rfl ?_
    exact h
  · replace h := h.2 (c)
    exact bw_return dX12_saysWord_6 rfl ⟨rfl, h⟩
theorem wfX12_saysCount {E : bw_E} {d : Nat} {w : bw_W} {Q : bw_W → Prop} {a0 : Int32}  (h : (∃ Q1 : bw_W → Prop, bw_rv E (d + 1) mX12_gap [.ref 50] w Q1 ∧ ∀ w3, Q1 w3 →
((a0 ≤ 9 → (((vp_in (gw_i w3 50 37) 200))) ∧
Q (sw_i (sw_i w3 71 ((gw_i w3 50 37).toNatClampNeg) (48 + (a0 - a0 / 10 * 10))) 50 37 ((gw_i w3 50 37) + 1))) ∧ (¬ (a0 ≤ 9) → (((vp_in (gw_i w3 50 37) 200))) ∧
(((vp_in (gw_i (sw_i (sw_i w3 71 ((gw_i w3 50 37).toNatClampNeg) (48 + (a0 / 10))) 50 37 ((gw_i w3 50 37) + 1)) 50 37) 200))) ∧
Q (sw_i (sw_i (sw_i (sw_i w3 71 ((gw_i w3 50 37).toNatClampNeg) (48 + (a0 / 10))) 50 37 ((gw_i w3 50 37) + 1)) 71 ((gw_i (sw_i (sw_i w3 71 ((gw_i w3 50 37).toNatClampNeg) (48 + (a0 / 10))) 50 37 ((gw_i w3 50 37) + 1)) 50 37).toNatClampNeg) (48 + (a0 - a0 / 10 * 10))) 50 37 ((gw_i (sw_i (sw_i w3 71 ((gw_i w3 50 37).toNatClampNeg) (48 + (a0 / 10))) 50 37 ((gw_i w3 50 37) + 1)) 50 37) + 1)))))) : bw_rv E (d + 2) mX12_saysCount [.ref 50, .int a0] w Q := by
  refine bw_enter rfl (Nat.le_of_ble_eq_true rfl) ?_
  refine bw_aload_n (i := 0) dX12_saysCount_0 rfl rfl ?_
  obtain ⟨Q1, hr, h⟩ := h
  refine bw_cVv (As := []) (st := []) cv_BentWordsModel_314 rfl rfl hr rfl rfl (Nat.le_of_ble_eq_true rfl) dX12_saysCount_1 (fun w3 hv => ?_)
  replace h := h w3 hv
  clear hr
  refine bw_iload_n (i := 1) dX12_saysCount_4 rfl rfl ?_
  refine bw_bipush (v := 9) dX12_saysCount_5 (by decide) ?_
  refine bw_icmp_le (tgt := 21) dX12_saysCount_7 (by decide) (fun c => ?_) (fun c => ?_)
  · replace h := h.1 (c)
    refine bw_aload_n (i := 0) dX12_saysCount_21 rfl rfl ?_
    refine bw_bipush (v := 48) dX12_saysCount_22 (by decide) ?_
    refine bw_iload_n (i := 1) dX12_saysCount_24 rfl rfl ?_
    refine bw_bipush (v := 10) dX12_saysCount_25 (by decide) ?_
    refine bw_irem dX12_saysCount_27 (by decide) ?_
    refine bw_iadd dX12_saysCount_28 ?_
    obtain ⟨hc4, h⟩ := h
    refine bw_cVv (As := [.int (48 + (a0 - a0 / 10 * 10))]) (st := []) (Q' := (fun w1 => (sw_i (sw_i w3 71 ((gw_i w3 50 37).toNatClampNeg) (48 + (a0 - a0 / 10 * 10))) 50 37 ((gw_i w3 50 37) + 1)) = w1)) cv_BentWordsModel_311 rfl rfl (fs_X12_says (d := d + 1) (a0 := (48 + (a0 - a0 / 10 * 10))) hc4 rfl) rfl rfl (Nat.le_of_ble_eq_true rfl) dX12_saysCount_29 (fun w1 hv => ?_)
    subst hv
    exact bw_return dX12_saysCount_32 rfl ⟨rfl, h⟩
  · replace h := h.2 (c)
    refine bw_aload_n (i := 0) dX12_saysCount_10 rfl rfl ?_
    refine bw_bipush (v := 48) dX12_saysCount_11 (by decide) ?_
    refine bw_iload_n (i := 1) dX12_saysCount_13 rfl rfl ?_
    refine bw_bipush (v := 10) dX12_saysCount_14 (by decide) ?_
    refine bw_idiv dX12_saysCount_16 (by decide) ?_
    refine bw_iadd dX12_saysCount_17 ?_
    obtain ⟨hc5, h⟩ := h
    refine bw_cVv (As := [.int (48 + (a0 / 10))]) (st := []) (Q' := (fun w1 => (sw_i (sw_i w3 71 ((gw_i w3 50 37).toNatClampNeg) (48 + (a0 / 10))) 50 37 ((gw_i w3 50 37) + 1)) = w1)) cv_BentWordsModel_311 rfl rfl (fs_X12_says (d := d + 1) (a0 := (48 + (a0 / 10))) hc5 rfl) rfl rfl (Nat.le_of_ble_eq_true rfl) dX12_saysCount_18 (fun w1 hv => ?_)
    subst hv
    refine bw_aload_n (i := 0) dX12_saysCount_21 rfl rfl ?_
    refine bw_bipush (v := 48) dX12_saysCount_22 (by decide) ?_
    refine bw_iload_n (i := 1) dX12_saysCount_24 rfl rfl ?_
    refine bw_bipush (v := 10) dX12_saysCount_25 (by decide) ?_
    refine bw_irem dX12_saysCount_27 (by decide) ?_
    refine bw_iadd dX12_saysCount_28 ?_
    obtain ⟨hc6, h⟩ := h
    refine bw_cVv (As := [.int (48 + (a0 - a0 / 10 * 10))]) (st := []) (Q' := (fun w1 => (sw_i (sw_i (sw_i (sw_i w3 71 ((gw_i w3 50 37).toNatClampNeg) (48 + (a0 / 10))) 50 37 ((gw_i w3 50 37) + 1)) 71 ((gw_i (sw_i (sw_i w3 71 ((gw_i w3 50 37).toNatClampNeg) (48 + (a0 / 10))) 50 37 ((gw_i w3 50 37) + 1)) 50 37).toNatClampNeg) (48 + (a0 - a0 / 10 * 10))) 50 37 ((gw_i (sw_i (sw_i w3 71 ((gw_i w3 50 37).toNatClampNeg) (48 + (a0 / 10))) 50 37 ((gw_i w3 50 37) + 1)) 50 37) + 1)) = w1)) cv_BentWordsModel_311 rfl rfl (fs_X12_says (d := d + 1) (a0 := (48 + (a0 - a0 / 10 * 10))) hc6 rfl) rfl rfl (Nat.le_of_ble_eq_true rfl) dX12_saysCount_29 (fun w1 hv => ?_)
    subst hv
    exact bw_return dX12_saysCount_32 rfl ⟨rfl, h⟩
theorem wfX12_whyFill {E : bw_E} {d : Nat} {w : bw_W} {Q : Int32 → bw_W → Prop} {a0 : Int32} {a1 : Int32} {a2 : Int32}  (h : ((¬ ((¬ ((gw_i w 50 34) ≤ 0)) ∧ ((¬ (a0 < 0)) ∧ (¬ (2 < a0)))) → Q 0 w) ∧ ((¬ ((gw_i w 50 34) ≤ 0)) ∧ ((¬ (a0 < 0)) ∧ (¬ (2 < a0))) → (((¬ (a1 < 0)) ∧ (¬ (((gw_i w 50 34) - 1) < a1)) → (((¬ (a2 < 0)) ∧ (¬ (99 < a2)) → (((vp_in (1 + (2 * a0)) 236))) ∧
((¬ (vX12_nounIn w a0) = a1 → Q (-1) w) ∧ ((vX12_nounIn w a0) = a1 → (((vp_in ((1 + (2 * a0)) + 1) 236))) ∧
((¬ (vX12_countIn w a0) = a2 → Q (-1) w) ∧ ((vX12_countIn w a0) = a2 → Q 2 w))))) ∧ (¬ ((¬ (a2 < 0)) ∧ (¬ (99 < a2))) → Q 1 w))) ∧ (¬ ((¬ (a1 < 0)) ∧ (¬ (((gw_i w 50 34) - 1) < a1))) → Q 0 w))))) : bw_ri E (d + 2) mX12_whyFill [.ref 50, .int a0, .int a1, .int a2] w Q := by
  refine bw_enter rfl (Nat.le_of_ble_eq_true rfl) ?_
  refine bw_aload_n (i := 0) dX12_whyFill_0 rfl rfl ?_
  refine bw_iload_n (i := 1) dX12_whyFill_1 rfl rfl ?_
  refine bw_cVb (As := [.int a0]) (st := []) (Q' := (fun v w1 => (decide ((¬ ((gw_i w 50 34) ≤ 0)) ∧ ((¬ (a0 < 0)) ∧ (¬ (2 < a0))))) = v ∧ w = w1)) cv_BentWordsModel_373 rfl rfl (fs_X12_isHole (d := d + 0) (a0 := a0)  ⟨rfl, rfl⟩) rfl rfl (Nat.le_of_ble_eq_true rfl) dX12_whyFill_2 (fun v w1 hv => ?_)
  obtain ⟨rfl, rfl⟩ := hv
  refine bw_ifb_eq (tgt := 16) dX12_whyFill_5 (by decide) (fun c => ?_) (fun c => ?_)
  · replace h := h.1 (of_decide_eq_false c)
    refine bw_iconst (v := 0) dX12_whyFill_16 (by decide) ?_
    exact bw_ireturn dX12_whyFill_17 rfl rfl ⟨_, rfl, h⟩
  · replace h := h.2 (of_decide_eq_true c)
    refine bw_aload_n (i := 0) dX12_whyFill_8 rfl rfl ?_
    refine bw_iload_n (i := 2) dX12_whyFill_9 rfl rfl ?_
    refine bw_cVb (As := [.int a1]) (st := []) (Q' := (fun v w1 => (decide ((¬ (a1 < 0)) ∧ (¬ (((gw_i w 50 34) - 1) < a1)))) = v ∧ w = w1)) cv_BentWordsModel_376 rfl rfl (fs_X12_isNoun (d := d + 0) (a0 := a1)  ⟨rfl, rfl⟩) rfl rfl (Nat.le_of_ble_eq_true rfl) dX12_whyFill_10 (fun v w1 hv => ?_)
    obtain ⟨rfl, rfl⟩ := hv
    refine bw_ifb_ne (tgt := 18) dX12_whyFill_13 (by decide) (fun c => ?_) (fun c => ?_)
    · replace h := h.1 (of_decide_eq_true c)
      refine bw_iload_n (i := 3) dX12_whyFill_18 rfl rfl ?_
      refine bw_iconst (v := 0) dX12_whyFill_19 (by decide) ?_
      refine bw_bipush (v := 99) dX12_whyFill_20 (by decide) ?_
      refine bw_cSb (As := [.int a2, .int 0, .int 99]) (st := []) (Q' := (fun v w1 => (decide ((¬ (a2 < 0)) ∧ (¬ (99 < a2)))) = v ∧ w = w1)) cs_BentWordsModel_100 (fs_X12_in (d := d + 1) (a0 := a2) (a1 := 0) (a2 := 99)  ⟨rfl, rfl⟩) rfl rfl (Nat.le_of_ble_eq_true rfl) dX12_whyFill_22 (fun v w1 hv => ?_)
      obtain ⟨rfl, rfl⟩ := hv
      refine bw_ifb_ne (tgt := 32) dX12_whyFill_25 (by decide) (fun c => ?_) (fun c => ?_)
      · replace h := h.1 (of_decide_eq_true c)
        refine bw_aload_n (i := 0) dX12_whyFill_32 rfl rfl ?_
        refine bw_iload_n (i := 1) dX12_whyFill_33 rfl rfl ?_
        obtain ⟨hc1, h⟩ := h
        refine bw_cVi (As := [.int a0]) (st := []) (Q' := (fun v w1 => (vX12_nounIn w a0) = v ∧ w = w1)) cv_BentWordsModel_330 rfl rfl (fs_X12_nounIn (d := d + 1) (a0 := a0) hc1 ⟨rfl, rfl⟩) rfl rfl (Nat.le_of_ble_eq_true rfl) dX12_whyFill_34 (fun v w1 hv => ?_)
        obtain ⟨rfl, rfl⟩ := hv
        refine bw_iload_n (i := 2) dX12_whyFill_37 rfl rfl ?_
        refine bw_icmp_ne (tgt := 54) dX12_whyFill_38 (by decide) (fun c => ?_) (fun c => ?_)
        · replace h := h.1 (c)
          refine bw_iconst (v := (-1)) dX12_whyFill_54 (by decide) ?_
          exact bw_ireturn dX12_whyFill_55 rfl rfl ⟨_, rfl, h⟩
        · replace h := h.2 (c)
          refine bw_aload_n (i := 0) dX12_whyFill_41 rfl rfl ?_
          refine bw_iload_n (i := 1) dX12_whyFill_42 rfl rfl ?_
          obtain ⟨hc2, h⟩ := h
          refine bw_cVi (As := [.int a0]) (st := []) (Q' := (fun v w1 => (vX12_countIn w a0) = v ∧ w = w1)) cv_BentWordsModel_278 rfl rfl (fs_X12_countIn (d := d + 1) (a0 := a0) hc2 ⟨rfl, rfl⟩) rfl rfl (Nat.le_of_ble_eq_true rfl) dX12_whyFill_43 (fun v w1 hv => ?_)
          obtain ⟨rfl, rfl⟩ := hv
          refine bw_iload_n (i := 3) dX12_whyFill_46 rfl rfl ?_
          refine bw_icmp_ne (tgt := 54) dX12_whyFill_47 (by decide) (fun c => ?_) (fun c => ?_)
          · replace h := h.1 (c)
            refine bw_iconst (v := (-1)) dX12_whyFill_54 (by decide) ?_
            exact bw_ireturn dX12_whyFill_55 rfl rfl ⟨_, rfl, h⟩
          · replace h := h.2 (c)
            refine bw_iconst (v := 2) dX12_whyFill_50 (by decide) ?_
            refine bw_goto (tgt := 55) dX12_whyFill_51 (by decide) ?_
            exact bw_ireturn dX12_whyFill_55 rfl rfl ⟨_, rfl, h⟩
      · replace h := h.2 (of_decide_eq_false c)
        refine bw_iconst (v := 1) dX12_whyFill_28 (by decide) ?_
        refine bw_goto (tgt := 55) dX12_whyFill_29 (by decide) ?_
        exact bw_ireturn dX12_whyFill_55 rfl rfl ⟨_, rfl, h⟩
    · replace h := h.2 (of_decide_eq_false c)
      refine bw_iconst (v := 0) dX12_whyFill_16 (by decide) ?_
      exact bw_ireturn dX12_whyFill_17 rfl rfl ⟨_, rfl, h⟩
def vX12_whyFill (w : bw_W) (a0 : Int32) (a1 : Int32) (a2 : Int32) : Int32 := (if ¬ ((¬ ((gw_i w 50 34) ≤ 0)) ∧ ((¬ (a0 < 0)) ∧ (¬ (2 < a0)))) then 0 else (if (¬ (a1 < 0)) ∧ (¬ (((gw_i w 50 34) - 1) < a1)) then (if (¬ (a2 < 0)) ∧ (¬ (99 < a2)) then (if ¬ (vX12_nounIn w a0) = a1 then (-1) else (if ¬ (vX12_countIn w a0) = a2 then (-1) else 2)) else 1) else 0))
theorem fs_X12_whyFill {E : bw_E} {d : Nat} {w : bw_W} {Q : Int32 → bw_W → Prop} {a0 : Int32} {a1 : Int32} {a2 : Int32}  (hc0 : ((¬ ((gw_i w 50 34) ≤ 0)) ∧ ((¬ (a0 < 0)) ∧ (¬ (2 < a0)))) → ((¬ (a1 < 0)) ∧ (¬ (((gw_i w 50 34) - 1) < a1))) → ((¬ (a2 < 0)) ∧ (¬ (99 < a2))) → (((vp_in (1 + (2 * a0)) 236)))) (hc1 : ((¬ ((gw_i w 50 34) ≤ 0)) ∧ ((¬ (a0 < 0)) ∧ (¬ (2 < a0)))) → ((¬ (a1 < 0)) ∧ (¬ (((gw_i w 50 34) - 1) < a1))) → ((¬ (a2 < 0)) ∧ (¬ (99 < a2))) → ((vX12_nounIn w a0) = a1) → (((vp_in ((1 + (2 * a0)) + 1) 236)))) (h : Q (vX12_whyFill w a0 a1 a2) w) : bw_ri E (d + 2) mX12_whyFill [.ref 50, .int a0, .int a1, .int a2] w Q := by
  refine wfX12_whyFill  ?_
  refine ⟨fun c0 => ?_, fun c0 => ?_⟩
  · (try simp only [vX12_whyFill, c0, if_true, if_false, ite_true, ite_false, decide_true, decide_false, true_and, and_true, false_and, and_false, not_true_eq_false, not_false_eq_true, true_or, or_true, false_or, or_false, or_self, and_self, Classical.not_not] at h) <;> exact h
  · refine ⟨fun c1 => ?_, fun c1 => ?_⟩
    · refine ⟨fun c2 => ?_, fun c2 => ?_⟩
      · refine ⟨hc0 c0 c1 c2, ?_⟩
        refine ⟨fun c3 => ?_, fun c3 => ?_⟩
        · (try simp only [vX12_whyFill, c0, c1, c2, c3, if_true, if_false, ite_true, ite_false, decide_true, decide_false, true_and, and_true, false_and, and_false, not_true_eq_false, not_false_eq_true, true_or, or_true, false_or, or_false, or_self, and_self, Classical.not_not] at h) <;> exact h
        · refine ⟨hc1 c0 c1 c2 c3, ?_⟩
          refine ⟨fun c4 => ?_, fun c4 => ?_⟩
          · (try simp only [vX12_whyFill, c0, c1, c2, c3, c4, if_true, if_false, ite_true, ite_false, decide_true, decide_false, true_and, and_true, false_and, and_false, not_true_eq_false, not_false_eq_true, true_or, or_true, false_or, or_false, or_self, and_self, Classical.not_not] at h) <;> exact h
          · (try simp only [vX12_whyFill, c0, c1, c2, c3, c4, if_true, if_false, ite_true, ite_false, decide_true, decide_false, true_and, and_true, false_and, and_false, not_true_eq_false, not_false_eq_true, true_or, or_true, false_or, or_false, or_self, and_self, Classical.not_not] at h) <;> exact h
      · (try simp only [vX12_whyFill, c0, c1, c2, if_true, if_false, ite_true, ite_false, decide_true, decide_false, true_and, and_true, false_and, and_false, not_true_eq_false, not_false_eq_true, true_or, or_true, false_or, or_false, or_self, and_self, Classical.not_not] at h) <;> exact h
    · (try simp only [vX12_whyFill, c0, c1, if_true, if_false, ite_true, ite_false, decide_true, decide_false, true_and, and_true, false_and, and_false, not_true_eq_false, not_false_eq_true, true_or, or_true, false_or, or_false, or_self, and_self, Classical.not_not] at h) <;> exact h
theorem wfX12_fillsNow {E : bw_E} {d : Nat} {w : bw_W} {Q : Int32 → bw_W → Prop} {a0 : Int32} {a1 : Int32} {a2 : Int32}  (h : (vp_in (1 + (2 * a0)) 236) ∧
(vp_in ((1 + (2 * a0)) + 1) 236) ∧
(((((vp_in ((1 + (2 * a0)) + 1) 236))))) ∧
Q (vX12_numberIn (sw_l (sw_l w 63 ((1 + (2 * a0)).toNatClampNeg) (a1.toInt64)) 63 (((1 + (2 * a0)) + 1).toNatClampNeg) (a2.toInt64)) a0) (sw_l (sw_l w 63 ((1 + (2 * a0)).toNatClampNeg) (a1.toInt64)) 63 (((1 + (2 * a0)) + 1).toNatClampNeg) (a2.toInt64))) : bw_ri E (d + 2) mX12_fillsNow [.ref 50, .int a0, .int a1, .int a2] w Q := by
  refine bw_enter rfl (Nat.le_of_ble_eq_true rfl) ?_
  refine bw_aload_n (i := 0) dX12_fillsNow_0 rfl rfl ?_
  refine bw_getr (r := 63) fg_BentWordsModel_47 rfl rfl dX12_fillsNow_1 ?_
  refine bw_iconst (v := 1) dX12_fillsNow_4 (by decide) ?_
  refine bw_iconst (v := 2) dX12_fillsNow_5 (by decide) ?_
  refine bw_iload_n (i := 1) dX12_fillsNow_6 rfl rfl ?_
  refine bw_imul dX12_fillsNow_7 ?_
  refine bw_iadd dX12_fillsNow_8 ?_
  refine bw_iload_n (i := 2) dX12_fillsNow_9 rfl rfl ?_
  refine bw_i2l dX12_fillsNow_10 ?_
  obtain ⟨hi1, h⟩ := h
  refine bw_lastore rfl hi1 dX12_fillsNow_11 ?_
  refine bw_aload_n (i := 0) dX12_fillsNow_12 rfl rfl ?_
  refine bw_getr (r := 63) fg_BentWordsModel_47 rfl rfl dX12_fillsNow_13 ?_
  refine bw_iconst (v := 1) dX12_fillsNow_16 (by decide) ?_
  refine bw_iconst (v := 2) dX12_fillsNow_17 (by decide) ?_
  refine bw_iload_n (i := 1) dX12_fillsNow_18 rfl rfl ?_
  refine bw_imul dX12_fillsNow_19 ?_
  refine bw_iadd dX12_fillsNow_20 ?_
  refine bw_iconst (v := 1) dX12_fillsNow_21 (by decide) ?_
  refine bw_iadd dX12_fillsNow_22 ?_
  refine bw_iload_n (i := 3) dX12_fillsNow_23 rfl rfl ?_
  refine bw_i2l dX12_fillsNow_24 ?_
  obtain ⟨hi2, h⟩ := h
  refine bw_lastore rfl hi2 dX12_fillsNow_25 ?_
  refine bw_aload_n (i := 0) dX12_fillsNow_26 rfl rfl ?_
  refine bw_iload_n (i := 1) dX12_fillsNow_27 rfl rfl ?_
  obtain ⟨hc3, h⟩ := h
  refine bw_cVi (As := [.int a0]) (st := []) (Q' := (fun v w1 => (vX12_numberIn (sw_l (sw_l w 63 ((1 + (2 * a0)).toNatClampNeg) (a1.toInt64)) 63 (((1 + (2 * a0)) + 1).toNatClampNeg) (a2.toInt64)) a0) = v ∧ (sw_l (sw_l w 63 ((1 + (2 * a0)).toNatClampNeg) (a1.toInt64)) 63 (((1 + (2 * a0)) + 1).toNatClampNeg) (a2.toInt64)) = w1)) cv_BentWordsModel_333 rfl rfl (fs_X12_numberIn (d := d + 0) (a0 := a0) hc3 ⟨rfl, rfl⟩) rfl rfl (Nat.le_of_ble_eq_true rfl) dX12_fillsNow_28 (fun v w1 hv => ?_)
  obtain ⟨rfl, rfl⟩ := hv
  exact bw_ireturn dX12_fillsNow_31 rfl rfl ⟨_, rfl, h⟩
def vX12_fillsNow (w : bw_W) (a0 : Int32) (a1 : Int32) (a2 : Int32) : Int32 := (vX12_numberIn (sw_l (sw_l w 63 ((1 + (2 * a0)).toNatClampNeg) (a1.toInt64)) 63 (((1 + (2 * a0)) + 1).toNatClampNeg) (a2.toInt64)) a0)
theorem fs_X12_fillsNow {E : bw_E} {d : Nat} {w : bw_W} {Q : Int32 → bw_W → Prop} {a0 : Int32} {a1 : Int32} {a2 : Int32}  (hc0 : (vp_in (1 + (2 * a0)) 236)) (hc1 : (vp_in ((1 + (2 * a0)) + 1) 236)) (hc2 : (((((vp_in ((1 + (2 * a0)) + 1) 236)))))) (h : Q (vX12_fillsNow w a0 a1 a2) (sw_l (sw_l w 63 ((1 + (2 * a0)).toNatClampNeg) (a1.toInt64)) 63 (((1 + (2 * a0)) + 1).toNatClampNeg) (a2.toInt64))) : bw_ri E (d + 2) mX12_fillsNow [.ref 50, .int a0, .int a1, .int a2] w Q := by
  refine wfX12_fillsNow  ?_
  refine ⟨hc0 , ?_⟩
  refine ⟨hc1 , ?_⟩
  refine ⟨hc2 , ?_⟩
  exact h
theorem wfX12_noun {E : bw_E} {d : Nat} {w : bw_W} {Q : Int32 → bw_W → Prop} {a0 : Int32} {a1 : Int32}  (h : ((¬ ((¬ (a0 < 0)) ∧ (¬ (((gw_i w 50 34) - 1) < a0))) → Q 0 (sw_i w 50 0 1)) ∧ ((¬ (a0 < 0)) ∧ (¬ (((gw_i w 50 34) - 1) < a0)) → ((¬ ((¬ (a1 < 0)) ∧ (¬ (2 < a1))) → Q 0 (sw_i w 50 0 1)) ∧ ((¬ (a1 < 0)) ∧ (¬ (2 < a1)) → ((¬ a1 = 0 → ((¬ a1 = 1 → (∃ Q1 : Int32 → bw_W → Prop, bw_ri E (d + 1) mX12_formsOf [.ref 50, .int a0] (sw_i w 50 0 0) Q1 ∧ ∀ v2 w3, Q1 v2 w3 →
Q v2 w3)) ∧ (a1 = 1 → (vp_in a0 6) ∧
(∃ Q5 : Int32 → bw_W → Prop, bw_ri E (d + 1) mX12_lettersOf [.long (gw_l w 65 (a0.toNatClampNeg))] (sw_i w 50 0 0) Q5 ∧ ∀ v6 w7, Q5 v6 w7 →
Q v6 w7)))) ∧ (a1 = 0 → (vp_in a0 6) ∧
Q (gw_i w 66 (a0.toNatClampNeg)) (sw_i w 50 0 0)))))))) : bw_ri E (d + 2) mX12_noun [.ref 50, .int a0, .int a1] w Q := by
  refine bw_enter rfl (Nat.le_of_ble_eq_true rfl) ?_
  refine bw_aload_n (i := 0) dX12_noun_0 rfl rfl ?_
  refine bw_aload_n (i := 0) dX12_noun_1 rfl rfl ?_
  refine bw_iload_n (i := 1) dX12_noun_2 rfl rfl ?_
  refine bw_cVb (As := [.int a0]) (st := [.ref 50]) (Q' := (fun v w1 => (decide ((¬ (a0 < 0)) ∧ (¬ (((gw_i w 50 34) - 1) < a0)))) = v ∧ w = w1)) cv_BentWordsModel_376 rfl rfl (fs_X12_isNoun (d := d + 0) (a0 := a0)  ⟨rfl, rfl⟩) rfl rfl (Nat.le_of_ble_eq_true rfl) dX12_noun_3 (fun v w1 hv => ?_)
  obtain ⟨rfl, rfl⟩ := hv
  refine bw_ifb_eq (tgt := 22) dX12_noun_6 (by decide) (fun c => ?_) (fun c => ?_)
  · replace h := h.1 (of_decide_eq_false c)
    refine bw_iconst (v := 1) dX12_noun_22 (by decide) ?_
    refine bw_puti fp_BentWordsModel_89 rfl rfl rfl dX12_noun_23 ?_
    refine bw_aload_n (i := 0) dX12_noun_26 rfl rfl ?_
    refine bw_geti fg_BentWordsModel_89 rfl dX12_noun_27 ?_
    rw [show gw_i (sw_i w 50 0 1) 50 0 = 1 from rfl]
    refine bw_iconst (v := 1) dX12_noun_30 (by decide) ?_
    refine bw_icmp_ne (tgt := 36) dX12_noun_31 (by decide) (fun c => absurd c (by decide)) (fun _ => ?_)
    refine bw_iconst (v := 0) dX12_noun_34 (by decide) ?_
    exact bw_ireturn dX12_noun_35 rfl rfl ⟨_, rfl, h⟩
  · replace h := h.2 (of_decide_eq_true c)
    refine bw_iload_n (i := 2) dX12_noun_9 rfl rfl ?_
    refine bw_iconst (v := 0) dX12_noun_10 (by decide) ?_
    refine bw_iconst (v := 2) dX12_noun_11 (by decide) ?_
    refine bw_cSb (As := [.int a1, .int 0, .int 2]) (st := [.ref 50]) (Q' := (fun v w1 => (decide ((¬ (a1 < 0)) ∧ (¬ (2 < a1)))) = v ∧ w = w1)) cs_BentWordsModel_100 (fs_X12_in (d := d + 1) (a0 := a1) (a1 := 0) (a2 := 2)  ⟨rfl, rfl⟩) rfl rfl (Nat.le_of_ble_eq_true rfl) dX12_noun_12 (fun v w1 hv => ?_)
    obtain ⟨rfl, rfl⟩ := hv
    refine bw_ifb_eq (tgt := 22) dX12_noun_15 (by decide) (fun c => ?_) (fun c => ?_)
    · replace h := h.1 (of_decide_eq_false c)
      refine bw_iconst (v := 1) dX12_noun_22 (by decide) ?_
      refine bw_puti fp_BentWordsModel_89 rfl rfl rfl dX12_noun_23 ?_
      refine bw_aload_n (i := 0) dX12_noun_26 rfl rfl ?_
      refine bw_geti fg_BentWordsModel_89 rfl dX12_noun_27 ?_
      rw [show gw_i (sw_i w 50 0 1) 50 0 = 1 from rfl]
      refine bw_iconst (v := 1) dX12_noun_30 (by decide) ?_
      refine bw_icmp_ne (tgt := 36) dX12_noun_31 (by decide) (fun c => absurd c (by decide)) (fun _ => ?_)
      refine bw_iconst (v := 0) dX12_noun_34 (by decide) ?_
      exact bw_ireturn dX12_noun_35 rfl rfl ⟨_, rfl, h⟩
    · replace h := h.2 (of_decide_eq_true c)
      refine bw_iconst (v := 0) dX12_noun_18 (by decide) ?_
      refine bw_goto (tgt := 23) dX12_noun_19 (by decide) ?_
      refine bw_puti fp_BentWordsModel_89 rfl rfl rfl dX12_noun_23 ?_
      refine bw_aload_n (i := 0) dX12_noun_26 rfl rfl ?_
      refine bw_geti fg_BentWordsModel_89 rfl dX12_noun_27 ?_
      rw [show gw_i (sw_i w 50 0 0) 50 0 = 0 from rfl]
      refine bw_iconst (v := 1) dX12_noun_30 (by decide) ?_
      refine bw_icmp_ne (tgt := 36) dX12_noun_31 (by decide) (fun _ => ?_) (fun c => absurd c (by decide))
      refine bw_iload_n (i := 2) dX12_noun_36 rfl rfl ?_
      refine bw_if_ne (tgt := 49) dX12_noun_37 (by decide) (fun c => ?_) (fun c => ?_)
      · replace h := h.1 (c)
        refine bw_iload_n (i := 2) dX12_noun_49 rfl rfl ?_
        refine bw_iconst (v := 1) dX12_noun_50 (by decide) ?_
        refine bw_icmp_ne (tgt := 66) dX12_noun_51 (by decide) (fun c => ?_) (fun c => ?_)
        · replace h := h.1 (c)
          refine bw_aload_n (i := 0) dX12_noun_66 rfl rfl ?_
          refine bw_iload_n (i := 1) dX12_noun_67 rfl rfl ?_
          obtain ⟨Q1, hr, h⟩ := h
          refine bw_cVi (As := [.int a0]) (st := []) cv_BentWordsModel_395 rfl rfl hr rfl rfl (Nat.le_of_ble_eq_true rfl) dX12_noun_68 (fun v2 w3 hv => ?_)
          replace h := h v2 w3 hv
          clear hr
          exact bw_ireturn dX12_noun_71 rfl rfl ⟨_, rfl, h⟩
        · replace h := h.2 (c)
          refine bw_aload_n (i := 0) dX12_noun_54 rfl rfl ?_
          refine bw_getr (r := 65) fg_BentWordsModel_53 rfl rfl dX12_noun_55 ?_
          refine bw_iload_n (i := 1) dX12_noun_58 rfl rfl ?_
          obtain ⟨hi4, h⟩ := h
          refine bw_laload rfl hi4 dX12_noun_59 ?_
          rw [show gw_l (sw_i w 50 0 0) 65 (a0.toNatClampNeg) = (gw_l w 65 (a0.toNatClampNeg)) from by first | rfl | (simp [gs_ii, gs_ll, gs_il, gs_li]; done)]
          obtain ⟨Q5, hr, h⟩ := h
          refine bw_cSi (As := [.long (gw_l w 65 (a0.toNatClampNeg))]) (st := []) cs_BentWordsModel_304 hr rfl rfl (Nat.le_of_ble_eq_true rfl) dX12_noun_60 (fun v6 w7 hv => ?_)
          replace h := h v6 w7 hv
          clear hr
          refine bw_goto (tgt := 71) dX12_noun_63 (by decide) ?_
          exact bw_ireturn dX12_noun_71 rfl rfl ⟨_, rfl, h⟩
      · replace h := h.2 (c)
        refine bw_aload_n (i := 0) dX12_noun_40 rfl rfl ?_
        refine bw_getr (r := 66) fg_BentWordsModel_56 rfl rfl dX12_noun_41 ?_
        refine bw_iload_n (i := 1) dX12_noun_44 rfl rfl ?_
        obtain ⟨hi8, h⟩ := h
        refine bw_iaload rfl hi8 dX12_noun_45 ?_
        rw [show gw_i (sw_i w 50 0 0) 66 (a0.toNatClampNeg) = (gw_i w 66 (a0.toNatClampNeg)) from by first | rfl | (simp [gs_ii, gs_ll, gs_il, gs_li]; done)]
        refine bw_goto (tgt := 71) dX12_noun_46 (by decide) ?_
        exact bw_ireturn dX12_noun_71 rfl rfl ⟨_, rfl, h⟩
theorem wfX12_letter {E : bw_E} {d : Nat} {w : bw_W} {Q : Int32 → bw_W → Prop} {a0 : Int64} {a1 : Int32}  (h : (∃ Q1 : Int32 → bw_W → Prop, bw_ri E (d + 1) mX12_lettersOf [.long a0] w Q1 ∧ ∀ v2 w3, Q1 v2 w3 →
((¬ a1 = (-1) → ((¬ ((¬ (a1 < 0)) ∧ (¬ ((v2 - 1) < a1))) → Q (-1) w3) ∧ ((¬ (a1 < 0)) ∧ (¬ ((v2 - 1) < a1)) → (∃ Q4 : Int32 → bw_W → Prop, bw_ri E (d + 1) mX12_letterOf [.long a0, .int a1] w3 Q4 ∧ ∀ v5 w6, Q4 v5 w6 →
Q v5 w6)))) ∧ (a1 = (-1) → Q v2 w3)))) : bw_ri E (d + 2) mX12_letter [.long a0, .int a1] w Q := by
  refine bw_enter rfl (Nat.le_of_ble_eq_true rfl) ?_
  refine bw_lload_n (i := 0) dX12_letter_0 rfl rfl ?_
  obtain ⟨Q1, hr, h⟩ := h
  refine bw_cSi (As := [.long a0]) (st := []) cs_BentWordsModel_304 hr rfl rfl (Nat.le_of_ble_eq_true rfl) dX12_letter_1 (fun v2 w3 hv => ?_)
  replace h := h v2 w3 hv
  clear hr
  refine bw_istore_n (i := 3) (L' := [some (.long a0), none, some (.int a1), some (.int v2)]) dX12_letter_4 rfl (Nat.le_of_ble_eq_true rfl) rfl ?_
  refine bw_iload_n (i := 2) dX12_letter_5 rfl rfl ?_
  refine bw_iconst (v := (-1)) dX12_letter_6 (by decide) ?_
  refine bw_icmp_ne (tgt := 14) dX12_letter_7 (by decide) (fun c => ?_) (fun c => ?_)
  · replace h := h.1 (c)
    refine bw_iload_n (i := 2) dX12_letter_14 rfl rfl ?_
    refine bw_iconst (v := 0) dX12_letter_15 (by decide) ?_
    refine bw_iload_n (i := 3) dX12_letter_16 rfl rfl ?_
    refine bw_iconst (v := 1) dX12_letter_17 (by decide) ?_
    refine bw_isub dX12_letter_18 ?_
    refine bw_cSb (As := [.int a1, .int 0, .int (v2 - 1)]) (st := []) (Q' := (fun v w1 => (decide ((¬ (a1 < 0)) ∧ (¬ ((v2 - 1) < a1)))) = v ∧ w3 = w1)) cs_BentWordsModel_100 (fs_X12_in (d := d + 1) (a0 := a1) (a1 := 0) (a2 := (v2 - 1))  ⟨rfl, rfl⟩) rfl rfl (Nat.le_of_ble_eq_true rfl) dX12_letter_19 (fun v w1 hv => ?_)
    obtain ⟨rfl, rfl⟩ := hv
    refine bw_ifb_eq (tgt := 33) dX12_letter_22 (by decide) (fun c => ?_) (fun c => ?_)
    · replace h := h.1 (of_decide_eq_false c)
      refine bw_iconst (v := (-1)) dX12_letter_33 (by decide) ?_
      exact bw_ireturn dX12_letter_34 rfl rfl ⟨_, rfl, h⟩
    · replace h := h.2 (of_decide_eq_true c)
      refine bw_lload_n (i := 0) dX12_letter_25 rfl rfl ?_
      refine bw_iload_n (i := 2) dX12_letter_26 rfl rfl ?_
      obtain ⟨Q4, hr, h⟩ := h
      refine bw_cSi (As := [.long a0, .int a1]) (st := []) cs_BentWordsModel_317 hr rfl rfl (Nat.le_of_ble_eq_true rfl) dX12_letter_27 (fun v5 w6 hv => ?_)
      replace h := h v5 w6 hv
      clear hr
      refine bw_goto (tgt := 34) dX12_letter_30 (by decide) ?_
      exact bw_ireturn dX12_letter_34 rfl rfl ⟨_, rfl, h⟩
  · replace h := h.2 (c)
    refine bw_iload_n (i := 3) dX12_letter_10 rfl rfl ?_
    refine bw_goto (tgt := 34) dX12_letter_11 (by decide) ?_
    exact bw_ireturn dX12_letter_34 rfl rfl ⟨_, rfl, h⟩
theorem wfX12_hole {E : bw_E} {d : Nat} {w : bw_W} {Q : Int32 → bw_W → Prop} {a0 : Int32} {a1 : Int32}  (h : ((¬ ((¬ ((gw_i w 50 34) ≤ 0)) ∧ ((¬ (a0 < 0)) ∧ (¬ (2 < a0)))) → Q (-1) w) ∧ ((¬ ((gw_i w 50 34) ≤ 0)) ∧ ((¬ (a0 < 0)) ∧ (¬ (2 < a0))) → ((¬ ((¬ (a1 < 0)) ∧ (¬ (2 < a1))) → Q (-1) w) ∧ ((¬ (a1 < 0)) ∧ (¬ (2 < a1)) → (((vp_in (1 + (2 * a0)) 236))) ∧
((¬ (vX12_nounIn w a0) = (-1) → ((¬ a1 = 0 → ((¬ a1 = 1 → (((((vp_in ((1 + (2 * a0)) + 1) 236))))) ∧
Q (vX12_numberIn w a0) w) ∧ (a1 = 1 → (((vp_in ((1 + (2 * a0)) + 1) 236))) ∧
Q (vX12_countIn w a0) w))) ∧ (a1 = 0 → (((vp_in (1 + (2 * a0)) 236))) ∧
Q (vX12_nounIn w a0) w))) ∧ ((vX12_nounIn w a0) = (-1) → Q (-1) w))))))) : bw_ri E (d + 2) mX12_hole [.ref 50, .int a0, .int a1] w Q := by
  refine bw_enter rfl (Nat.le_of_ble_eq_true rfl) ?_
  refine bw_aload_n (i := 0) dX12_hole_0 rfl rfl ?_
  refine bw_iload_n (i := 1) dX12_hole_1 rfl rfl ?_
  refine bw_cVb (As := [.int a0]) (st := []) (Q' := (fun v w1 => (decide ((¬ ((gw_i w 50 34) ≤ 0)) ∧ ((¬ (a0 < 0)) ∧ (¬ (2 < a0))))) = v ∧ w = w1)) cv_BentWordsModel_373 rfl rfl (fs_X12_isHole (d := d + 0) (a0 := a0)  ⟨rfl, rfl⟩) rfl rfl (Nat.le_of_ble_eq_true rfl) dX12_hole_2 (fun v w1 hv => ?_)
  obtain ⟨rfl, rfl⟩ := hv
  refine bw_ifb_eq (tgt := 26) dX12_hole_5 (by decide) (fun c => ?_) (fun c => ?_)
  · replace h := h.1 (of_decide_eq_false c)
    refine bw_iconst (v := (-1)) dX12_hole_26 (by decide) ?_
    exact bw_ireturn dX12_hole_27 rfl rfl ⟨_, rfl, h⟩
  · replace h := h.2 (of_decide_eq_true c)
    refine bw_iload_n (i := 2) dX12_hole_8 rfl rfl ?_
    refine bw_iconst (v := 0) dX12_hole_9 (by decide) ?_
    refine bw_iconst (v := 2) dX12_hole_10 (by decide) ?_
    refine bw_cSb (As := [.int a1, .int 0, .int 2]) (st := []) (Q' := (fun v w1 => (decide ((¬ (a1 < 0)) ∧ (¬ (2 < a1)))) = v ∧ w = w1)) cs_BentWordsModel_100 (fs_X12_in (d := d + 1) (a0 := a1) (a1 := 0) (a2 := 2)  ⟨rfl, rfl⟩) rfl rfl (Nat.le_of_ble_eq_true rfl) dX12_hole_11 (fun v w1 hv => ?_)
    obtain ⟨rfl, rfl⟩ := hv
    refine bw_ifb_eq (tgt := 26) dX12_hole_14 (by decide) (fun c => ?_) (fun c => ?_)
    · replace h := h.1 (of_decide_eq_false c)
      refine bw_iconst (v := (-1)) dX12_hole_26 (by decide) ?_
      exact bw_ireturn dX12_hole_27 rfl rfl ⟨_, rfl, h⟩
    · replace h := h.2 (of_decide_eq_true c)
      refine bw_aload_n (i := 0) dX12_hole_17 rfl rfl ?_
      refine bw_iload_n (i := 1) dX12_hole_18 rfl rfl ?_
      obtain ⟨hc1, h⟩ := h
      refine bw_cVi (As := [.int a0]) (st := []) (Q' := (fun v w1 => (vX12_nounIn w a0) = v ∧ w = w1)) cv_BentWordsModel_330 rfl rfl (fs_X12_nounIn (d := d + 1) (a0 := a0) hc1 ⟨rfl, rfl⟩) rfl rfl (Nat.le_of_ble_eq_true rfl) dX12_hole_19 (fun v w1 hv => ?_)
      obtain ⟨rfl, rfl⟩ := hv
      refine bw_iconst (v := (-1)) dX12_hole_22 (by decide) ?_
      refine bw_icmp_ne (tgt := 28) dX12_hole_23 (by decide) (fun c => ?_) (fun c => ?_)
      · replace h := h.1 (c)
        refine bw_iload_n (i := 2) dX12_hole_28 rfl rfl ?_
        refine bw_if_ne (tgt := 40) dX12_hole_29 (by decide) (fun c => ?_) (fun c => ?_)
        · replace h := h.1 (c)
          refine bw_iload_n (i := 2) dX12_hole_40 rfl rfl ?_
          refine bw_iconst (v := 1) dX12_hole_41 (by decide) ?_
          refine bw_icmp_ne (tgt := 53) dX12_hole_42 (by decide) (fun c => ?_) (fun c => ?_)
          · replace h := h.1 (c)
            refine bw_aload_n (i := 0) dX12_hole_53 rfl rfl ?_
            refine bw_iload_n (i := 1) dX12_hole_54 rfl rfl ?_
            obtain ⟨hc2, h⟩ := h
            refine bw_cVi (As := [.int a0]) (st := []) (Q' := (fun v w1 => (vX12_numberIn w a0) = v ∧ w = w1)) cv_BentWordsModel_333 rfl rfl (fs_X12_numberIn (d := d + 0) (a0 := a0) hc2 ⟨rfl, rfl⟩) rfl rfl (Nat.le_of_ble_eq_true rfl) dX12_hole_55 (fun v w1 hv => ?_)
            obtain ⟨rfl, rfl⟩ := hv
            exact bw_ireturn dX12_hole_58 rfl rfl ⟨_, rfl, h⟩
          · replace h := h.2 (c)
            refine bw_aload_n (i := 0) dX12_hole_45 rfl rfl ?_
            refine bw_iload_n (i := 1) dX12_hole_46 rfl rfl ?_
            obtain ⟨hc3, h⟩ := h
            refine bw_cVi (As := [.int a0]) (st := []) (Q' := (fun v w1 => (vX12_countIn w a0) = v ∧ w = w1)) cv_BentWordsModel_278 rfl rfl (fs_X12_countIn (d := d + 1) (a0 := a0) hc3 ⟨rfl, rfl⟩) rfl rfl (Nat.le_of_ble_eq_true rfl) dX12_hole_47 (fun v w1 hv => ?_)
            obtain ⟨rfl, rfl⟩ := hv
            refine bw_goto (tgt := 58) dX12_hole_50 (by decide) ?_
            exact bw_ireturn dX12_hole_58 rfl rfl ⟨_, rfl, h⟩
        · replace h := h.2 (c)
          refine bw_aload_n (i := 0) dX12_hole_32 rfl rfl ?_
          refine bw_iload_n (i := 1) dX12_hole_33 rfl rfl ?_
          obtain ⟨hc4, h⟩ := h
          refine bw_cVi (As := [.int a0]) (st := []) (Q' := (fun v w1 => (vX12_nounIn w a0) = v ∧ w = w1)) cv_BentWordsModel_330 rfl rfl (fs_X12_nounIn (d := d + 1) (a0 := a0) hc4 ⟨rfl, rfl⟩) rfl rfl (Nat.le_of_ble_eq_true rfl) dX12_hole_34 (fun v w1 hv => ?_)
          obtain ⟨rfl, rfl⟩ := hv
          refine bw_goto (tgt := 58) dX12_hole_37 (by decide) ?_
          exact bw_ireturn dX12_hole_58 rfl rfl ⟨_, rfl, h⟩
      · replace h := h.2 (c)
        refine bw_iconst (v := (-1)) dX12_hole_26 (by decide) ?_
        exact bw_ireturn dX12_hole_27 rfl rfl ⟨_, rfl, h⟩
def vX12_hole (w : bw_W) (a0 : Int32) (a1 : Int32) : Int32 := (if ¬ ((¬ ((gw_i w 50 34) ≤ 0)) ∧ ((¬ (a0 < 0)) ∧ (¬ (2 < a0)))) then (-1) else (if ¬ ((¬ (a1 < 0)) ∧ (¬ (2 < a1))) then (-1) else (if ¬ (vX12_nounIn w a0) = (-1) then (if ¬ a1 = 0 then (if ¬ a1 = 1 then (vX12_numberIn w a0) else (vX12_countIn w a0)) else (vX12_nounIn w a0)) else (-1))))
theorem fs_X12_hole {E : bw_E} {d : Nat} {w : bw_W} {Q : Int32 → bw_W → Prop} {a0 : Int32} {a1 : Int32}  (hc0 : ((¬ ((gw_i w 50 34) ≤ 0)) ∧ ((¬ (a0 < 0)) ∧ (¬ (2 < a0)))) → ((¬ (a1 < 0)) ∧ (¬ (2 < a1))) → (((vp_in (1 + (2 * a0)) 236)))) (hc1 : ((¬ ((gw_i w 50 34) ≤ 0)) ∧ ((¬ (a0 < 0)) ∧ (¬ (2 < a0)))) → ((¬ (a1 < 0)) ∧ (¬ (2 < a1))) → (¬ (vX12_nounIn w a0) = (-1)) → (¬ a1 = 0) → (¬ a1 = 1) → (((((vp_in ((1 + (2 * a0)) + 1) 236)))))) (hc2 : ((¬ ((gw_i w 50 34) ≤ 0)) ∧ ((¬ (a0 < 0)) ∧ (¬ (2 < a0)))) → ((¬ (a1 < 0)) ∧ (¬ (2 < a1))) → (¬ (vX12_nounIn w a0) = (-1)) → (¬ a1 = 0) → (a1 = 1) → (((vp_in ((1 + (2 * a0)) + 1) 236)))) (hc3 : ((¬ ((gw_i w 50 34) ≤ 0)) ∧ ((¬ (a0 < 0)) ∧ (¬ (2 < a0)))) → ((¬ (a1 < 0)) ∧ (¬ (2 < a1))) → (¬ (vX12_nounIn w a0) = (-1)) → (a1 = 0) → (((vp_in (1 + (2 * a0)) 236)))) (h : Q (vX12_hole w a0 a1) w) : bw_ri E (d + 2) mX12_hole [.ref 50, .int a0, .int a1] w Q := by
  refine wfX12_hole  ?_
  refine ⟨fun c0 => ?_, fun c0 => ?_⟩
  · (try simp only [vX12_hole, c0, if_true, if_false, ite_true, ite_false, decide_true, decide_false, true_and, and_true, false_and, and_false, not_true_eq_false, not_false_eq_true, true_or, or_true, false_or, or_false, or_self, and_self, Classical.not_not] at h) <;> exact h
  · refine ⟨fun c1 => ?_, fun c1 => ?_⟩
    · (try simp only [vX12_hole, c0, c1, if_true, if_false, ite_true, ite_false, decide_true, decide_false, true_and, and_true, false_and, and_false, not_true_eq_false, not_false_eq_true, true_or, or_true, false_or, or_false, or_self, and_self, Classical.not_not] at h) <;> exact h
    · refine ⟨hc0 c0 c1, ?_⟩
      refine ⟨fun c2 => ?_, fun c2 => ?_⟩
      · refine ⟨fun c3 => ?_, fun c3 => ?_⟩
        · refine ⟨fun c4 => ?_, fun c4 => ?_⟩
          · refine ⟨hc1 c0 c1 c2 c3 c4, ?_⟩
            (try simp only [vX12_hole, c0, c1, c2, c3, c4, if_true, if_false, ite_true, ite_false, decide_true, decide_false, true_and, and_true, false_and, and_false, not_true_eq_false, not_false_eq_true, true_or, or_true, false_or, or_false, or_self, and_self, Classical.not_not] at h) <;> exact h
          · refine ⟨hc2 c0 c1 c2 c3 c4, ?_⟩
            (try simp only [vX12_hole, c0, c1, c2, c3, c4, if_true, if_false, ite_true, ite_false, decide_true, decide_false, true_and, and_true, false_and, and_false, not_true_eq_false, not_false_eq_true, true_or, or_true, false_or, or_false, or_self, and_self, Classical.not_not] at h) <;> exact h
        · refine ⟨hc3 c0 c1 c2 c3, ?_⟩
          (try simp only [vX12_hole, c0, c1, c2, c3, if_true, if_false, ite_true, ite_false, decide_true, decide_false, true_and, and_true, false_and, and_false, not_true_eq_false, not_false_eq_true, true_or, or_true, false_or, or_false, or_self, and_self, Classical.not_not] at h) <;> exact h
      · (try simp only [vX12_hole, c0, c1, c2, if_true, if_false, ite_true, ite_false, decide_true, decide_false, true_and, and_true, false_and, and_false, not_true_eq_false, not_false_eq_true, true_or, or_true, false_or, or_false, or_self, and_self, Classical.not_not] at h) <;> exact h
theorem wfX12_bare_14 {E : bw_E} {d : Nat} {w : bw_W} {Q : Int32 → bw_W → Prop} {l1 : Int32} {l2 : Int32} {l3 : Int32}  (h : ((8 ≤ l3 → Q l2 w) ∧ (¬ (8 ≤ l3) → (vp_in ((7 + (8 * l1)) + l3) 236) ∧
((¬ (gw_l w 63 (((7 + (8 * l1)) + l3).toNatClampNeg)) = 0 → bw_G E (d + 2) mX12_bare 14 [some (.ref 50), some (.int l1), some (.int (l2 ||| 0)), some (.int (l3 + 1))] [] w (bw_qi Q)) ∧ ((gw_l w 63 (((7 + (8 * l1)) + l3).toNatClampNeg)) = 0 → bw_G E (d + 2) mX12_bare 14 [some (.ref 50), some (.int l1), some (.int (l2 ||| ((1 : Int32) <<< (l3 &&& 31)))), some (.int (l3 + 1))] [] w (bw_qi Q)))))) : bw_G E (d + 2) mX12_bare 14 [some (.ref 50), some (.int l1), some (.int l2), some (.int l3)] [] w (bw_qi Q) := by
  refine bw_iload_n (i := 3) dX12_bare_14 rfl rfl ?_
  refine bw_bipush (v := 8) dX12_bare_15 (by decide) ?_
  refine bw_icmp_ge (tgt := 55) dX12_bare_17 (by decide) (fun c => ?_) (fun c => ?_)
  · replace h := h.1 (c)
    refine bw_iload_n (i := 2) dX12_bare_55 rfl rfl ?_
    exact bw_ireturn dX12_bare_56 rfl rfl ⟨_, rfl, h⟩
  · replace h := h.2 (c)
    refine bw_iload_n (i := 2) dX12_bare_20 rfl rfl ?_
    refine bw_aload_n (i := 0) dX12_bare_21 rfl rfl ?_
    refine bw_getr (r := 63) fg_BentWordsModel_47 rfl rfl dX12_bare_22 ?_
    refine bw_bipush (v := 7) dX12_bare_25 (by decide) ?_
    refine bw_bipush (v := 8) dX12_bare_27 (by decide) ?_
    refine bw_iload_n (i := 1) dX12_bare_29 rfl rfl ?_
    refine bw_imul dX12_bare_30 ?_
    refine bw_iadd dX12_bare_31 ?_
    refine bw_iload_n (i := 3) dX12_bare_32 rfl rfl ?_
    refine bw_iadd dX12_bare_33 ?_
    obtain ⟨hi1, h⟩ := h
    refine bw_laload rfl hi1 dX12_bare_34 ?_
    refine bw_lconst (v := 0) dX12_bare_35 rfl ?_
    refine bw_lcmp_ne (tgt := 46) dX12_bare_36 dX12_bare_37 (by decide) (fun c => ?_) (fun c => ?_)
    · replace h := h.1 (c)
      refine bw_iconst (v := 0) dX12_bare_46 (by decide) ?_
      refine bw_ior dX12_bare_47 ?_
      refine bw_istore_n (i := 2) (L' := [some (.ref 50), some (.int l1), some (.int (l2 ||| 0)), some (.int l3)]) dX12_bare_48 rfl (Nat.le_of_ble_eq_true rfl) rfl ?_
      refine bw_iinc (i := 3) (x := l3) (v := (l3 + 1)) (L' := [some (.ref 50), some (.int l1), some (.int (l2 ||| 0)), some (.int (l3 + 1))]) dX12_bare_49 rfl rfl (Nat.le_of_ble_eq_true rfl) rfl ?_
      refine bw_goto (tgt := 14) dX12_bare_52 (by decide) ?_
      exact h
    · replace h := h.2 (c)
      refine bw_iconst (v := 1) dX12_bare_40 (by decide) ?_
      refine bw_iload_n (i := 3) dX12_bare_41 rfl rfl ?_
      refine bw_ishl dX12_bare_42 ?_
      refine bw_goto (tgt := 47) dX12_bare_43 (by decide) ?_
      refine bw_ior dX12_bare_47 ?_
      refine bw_istore_n (i := 2) (L' := [some (.ref 50), some (.int l1), some (.int (l2 ||| ((1 : Int32) <<< (l3 &&& 31)))), some (.int l3)]) dX12_bare_48 rfl (Nat.le_of_ble_eq_true rfl) rfl ?_
      refine bw_iinc (i := 3) (x := l3) (v := (l3 + 1)) (L' := [some (.ref 50), some (.int l1), some (.int (l2 ||| ((1 : Int32) <<< (l3 &&& 31)))), some (.int (l3 + 1))]) dX12_bare_49 rfl rfl (Nat.le_of_ble_eq_true rfl) rfl ?_
      refine bw_goto (tgt := 14) dX12_bare_52 (by decide) ?_
      exact h
theorem wfX12_bare {E : bw_E} {d : Nat} {w : bw_W} {Q : Int32 → bw_W → Prop} {a0 : Int32}  (h : (((¬ (a0 < 0)) ∧ (¬ (((gw_i w 50 34) - 1) < a0)) → bw_G E (d + 2) mX12_bare 14 [some (.ref 50), some (.int a0), some (.int 0), some (.int 0)] [] w (bw_qi Q)) ∧ (¬ ((¬ (a0 < 0)) ∧ (¬ (((gw_i w 50 34) - 1) < a0))) → Q (-1) w))) : bw_ri E (d + 2) mX12_bare [.ref 50, .int a0] w Q := by
  refine bw_enter rfl (Nat.le_of_ble_eq_true rfl) ?_
  refine bw_aload_n (i := 0) dX12_bare_0 rfl rfl ?_
  refine bw_iload_n (i := 1) dX12_bare_1 rfl rfl ?_
  refine bw_cVb (As := [.int a0]) (st := []) (Q' := (fun v w1 => (decide ((¬ (a0 < 0)) ∧ (¬ (((gw_i w 50 34) - 1) < a0)))) = v ∧ w = w1)) cv_BentWordsModel_376 rfl rfl (fs_X12_isNoun (d := d + 0) (a0 := a0)  ⟨rfl, rfl⟩) rfl rfl (Nat.le_of_ble_eq_true rfl) dX12_bare_2 (fun v w1 hv => ?_)
  obtain ⟨rfl, rfl⟩ := hv
  refine bw_ifb_ne (tgt := 10) dX12_bare_5 (by decide) (fun c => ?_) (fun c => ?_)
  · replace h := h.1 (of_decide_eq_true c)
    refine bw_iconst (v := 0) dX12_bare_10 (by decide) ?_
    refine bw_istore_n (i := 2) (L' := [some (.ref 50), some (.int a0), some (.int 0), none]) dX12_bare_11 rfl (Nat.le_of_ble_eq_true rfl) rfl ?_
    refine bw_iconst (v := 0) dX12_bare_12 (by decide) ?_
    refine bw_istore_n (i := 3) (L' := [some (.ref 50), some (.int a0), some (.int 0), some (.int 0)]) dX12_bare_13 rfl (Nat.le_of_ble_eq_true rfl) rfl ?_
    exact h
  · replace h := h.2 (of_decide_eq_false c)
    refine bw_iconst (v := (-1)) dX12_bare_8 (by decide) ?_
    exact bw_ireturn dX12_bare_9 rfl rfl ⟨_, rfl, h⟩
theorem wfX12_needs_17 {E : bw_E} {d : Nat} {w : bw_W} {Q : Int32 → bw_W → Prop} {l1 : Int32} {l2 : Int32} {l3 : Int32}  (h : (vp_in l1 4) ∧
((((8 * l1) + (gw_i w 68 (l1.toNatClampNeg))) ≤ l3 → bw_G E (d + 2) mX12_needs 70 [some (.ref 50), some (.int l1), some (.int l2), some (.int 0), some (.int 0), none] [] w (bw_qi Q)) ∧ (¬ (((8 * l1) + (gw_i w 68 (l1.toNatClampNeg))) ≤ l3) → (((vp_in (3 * l3) 96))) ∧
(((¬ ((gw_i w 69 ((3 * l3).toNatClampNeg)) = 1)) → (vp_in (3 * l3) 96))) ∧
((¬ (((gw_i w 69 ((3 * l3).toNatClampNeg)) = 1) ∨ ((gw_i w 69 ((3 * l3).toNatClampNeg)) = 2)) → bw_G E (d + 2) mX12_needs 17 [some (.ref 50), some (.int l1), some (.int (l2 ||| 0)), some (.int (l3 + 1)), none, none] [] w (bw_qi Q)) ∧ (((gw_i w 69 ((3 * l3).toNatClampNeg)) = 1) ∨ ((gw_i w 69 ((3 * l3).toNatClampNeg)) = 2) → (vp_in ((3 * l3) + 2) 96) ∧
bw_G E (d + 2) mX12_needs 17 [some (.ref 50), some (.int l1), some (.int (l2 ||| ((1 : Int32) <<< ((gw_i w 69 (((3 * l3) + 2).toNatClampNeg)) &&& 31)))), some (.int (l3 + 1)), none, none] [] w (bw_qi Q)))))) : bw_G E (d + 2) mX12_needs 17 [some (.ref 50), some (.int l1), some (.int l2), some (.int l3), none, none] [] w (bw_qi Q) := by
  refine bw_iload_n (i := 3) dX12_needs_17 rfl rfl ?_
  refine bw_bipush (v := 8) dX12_needs_18 (by decide) ?_
  refine bw_iload_n (i := 1) dX12_needs_20 rfl rfl ?_
  refine bw_imul dX12_needs_21 ?_
  refine bw_aload_n (i := 0) dX12_needs_22 rfl rfl ?_
  refine bw_getr (r := 68) fg_BentWordsModel_62 rfl rfl dX12_needs_23 ?_
  refine bw_iload_n (i := 1) dX12_needs_26 rfl rfl ?_
  obtain ⟨hi1, h⟩ := h
  refine bw_iaload rfl hi1 dX12_needs_27 ?_
  refine bw_iadd dX12_needs_28 ?_
  refine bw_icmp_ge (tgt := 65) dX12_needs_29 (by decide) (fun c => ?_) (fun c => ?_)
  · replace h := h.1 (c)
    refine bw_iconst (v := 0) dX12_needs_65 (by decide) ?_
    refine bw_istore_n (i := 3) (L' := [some (.ref 50), some (.int l1), some (.int l2), some (.int 0), none, none]) dX12_needs_66 rfl (Nat.le_of_ble_eq_true rfl) rfl ?_
    refine bw_iconst (v := 0) dX12_needs_67 (by decide) ?_
    refine bw_istore (i := 4) (L' := [some (.ref 50), some (.int l1), some (.int l2), some (.int 0), some (.int 0), none]) dX12_needs_68 (Nat.le_of_ble_eq_true rfl) rfl ?_
    exact h
  · replace h := h.2 (c)
    refine bw_iload_n (i := 2) dX12_needs_32 rfl rfl ?_
    refine bw_aload_n (i := 0) dX12_needs_33 rfl rfl ?_
    refine bw_iload_n (i := 3) dX12_needs_34 rfl rfl ?_
    obtain ⟨hc2, h⟩ := h
    obtain ⟨hc3, h⟩ := h
    refine bw_cVb (As := [.int l3]) (st := [.int l2]) (Q' := (fun v w1 => (decide (((gw_i w 69 ((3 * l3).toNatClampNeg)) = 1) ∨ ((gw_i w 69 ((3 * l3).toNatClampNeg)) = 2))) = v ∧ w = w1)) cv_BentWordsModel_459 rfl rfl (fs_X12_isFormItem (d := d + 1) (a0 := l3) hc2 hc3 ⟨rfl, rfl⟩) rfl rfl (Nat.le_of_ble_eq_true rfl) dX12_needs_35 (fun v w1 hv => ?_)
    obtain ⟨rfl, rfl⟩ := hv
    refine bw_ifb_eq (tgt := 56) dX12_needs_38 (by decide) (fun c => ?_) (fun c => ?_)
    · replace h := h.1 (of_decide_eq_false c)
      refine bw_iconst (v := 0) dX12_needs_56 (by decide) ?_
      refine bw_ior dX12_needs_57 ?_
      refine bw_istore_n (i := 2) (L' := [some (.ref 50), some (.int l1), some (.int (l2 ||| 0)), some (.int l3), none, none]) dX12_needs_58 rfl (Nat.le_of_ble_eq_true rfl) rfl ?_
      refine bw_iinc (i := 3) (x := l3) (v := (l3 + 1)) (L' := [some (.ref 50), some (.int l1), some (.int (l2 ||| 0)), some (.int (l3 + 1)), none, none]) dX12_needs_59 rfl rfl (Nat.le_of_ble_eq_true rfl) rfl ?_
      refine bw_goto (tgt := 17) dX12_needs_62 (by decide) ?_
      exact h
    · replace h := h.2 (of_decide_eq_true c)
      refine bw_iconst (v := 1) dX12_needs_41 (by decide) ?_
      refine bw_aload_n (i := 0) dX12_needs_42 rfl rfl ?_
      refine bw_getr (r := 69) fg_BentWordsModel_65 rfl rfl dX12_needs_43 ?_
      refine bw_iconst (v := 3) dX12_needs_46 (by decide) ?_
      refine bw_iload_n (i := 3) dX12_needs_47 rfl rfl ?_
      refine bw_imul dX12_needs_48 ?_
      refine bw_iconst (v := 2) dX12_needs_49 (by decide) ?_
      refine bw_iadd dX12_needs_50 ?_
      obtain ⟨hi4, h⟩ := h
      refine bw_iaload rfl hi4 dX12_needs_51 ?_
      refine bw_ishl dX12_needs_52 ?_
      refine bw_goto (tgt := 57) dX12_needs_53 (by decide) ?_
      refine bw_ior dX12_needs_57 ?_
      refine bw_istore_n (i := 2) (L' := [some (.ref 50), some (.int l1), some (.int (l2 ||| ((1 : Int32) <<< ((gw_i w 69 (((3 * l3) + 2).toNatClampNeg)) &&& 31)))), some (.int l3), none, none]) dX12_needs_58 rfl (Nat.le_of_ble_eq_true rfl) rfl ?_
      refine bw_iinc (i := 3) (x := l3) (v := (l3 + 1)) (L' := [some (.ref 50), some (.int l1), some (.int (l2 ||| ((1 : Int32) <<< ((gw_i w 69 (((3 * l3) + 2).toNatClampNeg)) &&& 31)))), some (.int (l3 + 1)), none, none]) dX12_needs_59 rfl rfl (Nat.le_of_ble_eq_true rfl) rfl ?_
      refine bw_goto (tgt := 17) dX12_needs_62 (by decide) ?_
      exact h
theorem wfX12_needs_70 {E : bw_E} {d : Nat} {w : bw_W} {Q : Int32 → bw_W → Prop} {l1 : Int32} {l2 : Int32} {l3 : Int32} {l4 : Int32}  (h : (((gw_i w 50 34) ≤ l4 → Q l3 w) ∧ (¬ ((gw_i w 50 34) ≤ l4) → bw_G E (d + 2) mX12_needs 82 [some (.ref 50), some (.int l1), some (.int l2), some (.int l3), some (.int l4), some (.int 0)] [] w (bw_qi Q)))) : bw_G E (d + 2) mX12_needs 70 [some (.ref 50), some (.int l1), some (.int l2), some (.int l3), some (.int l4), none] [] w (bw_qi Q) := by
  refine bw_iload dX12_needs_70 rfl ?_
  refine bw_aload_n (i := 0) dX12_needs_72 rfl rfl ?_
  refine bw_geti fg_BentWordsModel_269 rfl dX12_needs_73 ?_
  refine bw_icmp_ge (tgt := 141) dX12_needs_76 (by decide) (fun c => ?_) (fun c => ?_)
  · replace h := h.1 (c)
    refine bw_iload_n (i := 3) dX12_needs_141 rfl rfl ?_
    exact bw_ireturn dX12_needs_142 rfl rfl ⟨_, rfl, h⟩
  · replace h := h.2 (c)
    refine bw_iconst (v := 0) dX12_needs_79 (by decide) ?_
    refine bw_istore (i := 5) (L' := [some (.ref 50), some (.int l1), some (.int l2), some (.int l3), some (.int l4), some (.int 0)]) dX12_needs_80 (Nat.le_of_ble_eq_true rfl) rfl ?_
    exact h
theorem wfX12_needs_82 {E : bw_E} {d : Nat} {w : bw_W} {Q : Int32 → bw_W → Prop} {l1 : Int32} {l2 : Int32} {l3 : Int32} {l4 : Int32} {l5 : Int32}  (h : ((8 ≤ l5 → bw_G E (d + 2) mX12_needs 70 [some (.ref 50), some (.int l1), some (.int l2), some (.int l3), some (.int (l4 + 1)), none] [] w (bw_qi Q)) ∧ (¬ (8 ≤ l5) → ((¬ (((l2 >>> ((l5 / 2) &&& 31)) &&& 1) = 1) → bw_G E (d + 2) mX12_needs 82 [some (.ref 50), some (.int l1), some (.int l2), some (.int (l3 + 0)), some (.int l4), some (.int (l5 + 1))] [] w (bw_qi Q)) ∧ ((((l2 >>> ((l5 / 2) &&& 31)) &&& 1) = 1) → (vp_in ((7 + (8 * l4)) + l5) 236) ∧
((¬ (gw_l w 63 (((7 + (8 * l4)) + l5).toNatClampNeg)) = 0 → bw_G E (d + 2) mX12_needs 82 [some (.ref 50), some (.int l1), some (.int l2), some (.int (l3 + 0)), some (.int l4), some (.int (l5 + 1))] [] w (bw_qi Q)) ∧ ((gw_l w 63 (((7 + (8 * l4)) + l5).toNatClampNeg)) = 0 → bw_G E (d + 2) mX12_needs 82 [some (.ref 50), some (.int l1), some (.int l2), some (.int (l3 + 1)), some (.int l4), some (.int (l5 + 1))] [] w (bw_qi Q)))))))) : bw_G E (d + 2) mX12_needs 82 [some (.ref 50), some (.int l1), some (.int l2), some (.int l3), some (.int l4), some (.int l5)] [] w (bw_qi Q) := by
  refine bw_iload dX12_needs_82 rfl ?_
  refine bw_bipush (v := 8) dX12_needs_84 (by decide) ?_
  refine bw_icmp_ge (tgt := 135) dX12_needs_86 (by decide) (fun c => ?_) (fun c => ?_)
  · replace h := h.1 (c)
    refine bw_iinc (i := 4) (x := l4) (v := (l4 + 1)) (L' := [some (.ref 50), some (.int l1), some (.int l2), some (.int l3), some (.int (l4 + 1)), some (.int l5)]) dX12_needs_135 rfl rfl (Nat.le_of_ble_eq_true rfl) rfl ?_
    refine bw_goto (tgt := 70) dX12_needs_138 (by decide) ?_
    exact bw_wk [5] rfl h
  · replace h := h.2 (c)
    refine bw_iload_n (i := 3) dX12_needs_89 rfl rfl ?_
    refine bw_iload_n (i := 2) dX12_needs_90 rfl rfl ?_
    refine bw_iload dX12_needs_91 rfl ?_
    refine bw_iconst (v := 2) dX12_needs_93 (by decide) ?_
    refine bw_idiv dX12_needs_94 (by decide) ?_
    refine bw_cSb (As := [.int l2, .int (l5 / 2)]) (st := [.int l3]) (Q' := (fun v w1 => (decide (((l2 >>> ((l5 / 2) &&& 31)) &&& 1) = 1)) = v ∧ w = w1)) cs_BentWordsModel_471 (fs_X12_has (d := d + 1) (a0 := l2) (a1 := (l5 / 2))  ⟨rfl, rfl⟩) rfl rfl (Nat.le_of_ble_eq_true rfl) dX12_needs_95 (fun v w1 hv => ?_)
    obtain ⟨rfl, rfl⟩ := hv
    refine bw_ifb_eq (tgt := 126) dX12_needs_98 (by decide) (fun c => ?_) (fun c => ?_)
    · replace h := h.1 (of_decide_eq_false c)
      refine bw_iconst (v := 0) dX12_needs_126 (by decide) ?_
      refine bw_iadd dX12_needs_127 ?_
      refine bw_istore_n (i := 3) (L' := [some (.ref 50), some (.int l1), some (.int l2), some (.int (l3 + 0)), some (.int l4), some (.int l5)]) dX12_needs_128 rfl (Nat.le_of_ble_eq_true rfl) rfl ?_
      refine bw_iinc (i := 5) (x := l5) (v := (l5 + 1)) (L' := [some (.ref 50), some (.int l1), some (.int l2), some (.int (l3 + 0)), some (.int l4), some (.int (l5 + 1))]) dX12_needs_129 rfl rfl (Nat.le_of_ble_eq_true rfl) rfl ?_
      refine bw_goto (tgt := 82) dX12_needs_132 (by decide) ?_
      exact h
    · replace h := h.2 (of_decide_eq_true c)
      refine bw_aload_n (i := 0) dX12_needs_101 rfl rfl ?_
      refine bw_getr (r := 63) fg_BentWordsModel_47 rfl rfl dX12_needs_102 ?_
      refine bw_bipush (v := 7) dX12_needs_105 (by decide) ?_
      refine bw_bipush (v := 8) dX12_needs_107 (by decide) ?_
      refine bw_iload dX12_needs_109 rfl ?_
      refine bw_imul dX12_needs_111 ?_
      refine bw_iadd dX12_needs_112 ?_
      refine bw_iload dX12_needs_113 rfl ?_
      refine bw_iadd dX12_needs_115 ?_
      obtain ⟨hi1, h⟩ := h
      refine bw_laload rfl hi1 dX12_needs_116 ?_
      refine bw_lconst (v := 0) dX12_needs_117 rfl ?_
      refine bw_lcmp_ne (tgt := 126) dX12_needs_118 dX12_needs_119 (by decide) (fun c => ?_) (fun c => ?_)
      · replace h := h.1 (c)
        refine bw_iconst (v := 0) dX12_needs_126 (by decide) ?_
        refine bw_iadd dX12_needs_127 ?_
        refine bw_istore_n (i := 3) (L' := [some (.ref 50), some (.int l1), some (.int l2), some (.int (l3 + 0)), some (.int l4), some (.int l5)]) dX12_needs_128 rfl (Nat.le_of_ble_eq_true rfl) rfl ?_
        refine bw_iinc (i := 5) (x := l5) (v := (l5 + 1)) (L' := [some (.ref 50), some (.int l1), some (.int l2), some (.int (l3 + 0)), some (.int l4), some (.int (l5 + 1))]) dX12_needs_129 rfl rfl (Nat.le_of_ble_eq_true rfl) rfl ?_
        refine bw_goto (tgt := 82) dX12_needs_132 (by decide) ?_
        exact h
      · replace h := h.2 (c)
        refine bw_iconst (v := 1) dX12_needs_122 (by decide) ?_
        refine bw_goto (tgt := 127) dX12_needs_123 (by decide) ?_
        refine bw_iadd dX12_needs_127 ?_
        refine bw_istore_n (i := 3) (L' := [some (.ref 50), some (.int l1), some (.int l2), some (.int (l3 + 1)), some (.int l4), some (.int l5)]) dX12_needs_128 rfl (Nat.le_of_ble_eq_true rfl) rfl ?_
        refine bw_iinc (i := 5) (x := l5) (v := (l5 + 1)) (L' := [some (.ref 50), some (.int l1), some (.int l2), some (.int (l3 + 1)), some (.int l4), some (.int (l5 + 1))]) dX12_needs_129 rfl rfl (Nat.le_of_ble_eq_true rfl) rfl ?_
        refine bw_goto (tgt := 82) dX12_needs_132 (by decide) ?_
        exact h
theorem wfX12_needs {E : bw_E} {d : Nat} {w : bw_W} {Q : Int32 → bw_W → Prop} {a0 : Int32}  (h : (((¬ ((gw_i w 50 34) ≤ 0)) ∧ ((¬ (a0 < 0)) ∧ (¬ (((gw_i w 50 35) - 1) < a0))) → bw_G E (d + 2) mX12_needs 17 [some (.ref 50), some (.int a0), some (.int 0), some (.int (8 * a0)), none, none] [] w (bw_qi Q)) ∧ (¬ ((¬ ((gw_i w 50 34) ≤ 0)) ∧ ((¬ (a0 < 0)) ∧ (¬ (((gw_i w 50 35) - 1) < a0)))) → Q (-1) w))) : bw_ri E (d + 2) mX12_needs [.ref 50, .int a0] w Q := by
  refine bw_enter rfl (Nat.le_of_ble_eq_true rfl) ?_
  refine bw_aload_n (i := 0) dX12_needs_0 rfl rfl ?_
  refine bw_iload_n (i := 1) dX12_needs_1 rfl rfl ?_
  refine bw_cVb (As := [.int a0]) (st := []) (Q' := (fun v w1 => (decide ((¬ ((gw_i w 50 34) ≤ 0)) ∧ ((¬ (a0 < 0)) ∧ (¬ (((gw_i w 50 35) - 1) < a0))))) = v ∧ w = w1)) cv_BentWordsModel_453 rfl rfl (fs_X12_isMessage (d := d + 0) (a0 := a0)  ⟨rfl, rfl⟩) rfl rfl (Nat.le_of_ble_eq_true rfl) dX12_needs_2 (fun v w1 hv => ?_)
  obtain ⟨rfl, rfl⟩ := hv
  refine bw_ifb_ne (tgt := 10) dX12_needs_5 (by decide) (fun c => ?_) (fun c => ?_)
  · replace h := h.1 (of_decide_eq_true c)
    refine bw_iconst (v := 0) dX12_needs_10 (by decide) ?_
    refine bw_istore_n (i := 2) (L' := [some (.ref 50), some (.int a0), some (.int 0), none, none, none]) dX12_needs_11 rfl (Nat.le_of_ble_eq_true rfl) rfl ?_
    refine bw_bipush (v := 8) dX12_needs_12 (by decide) ?_
    refine bw_iload_n (i := 1) dX12_needs_14 rfl rfl ?_
    refine bw_imul dX12_needs_15 ?_
    refine bw_istore_n (i := 3) (L' := [some (.ref 50), some (.int a0), some (.int 0), some (.int (8 * a0)), none, none]) dX12_needs_16 rfl (Nat.le_of_ble_eq_true rfl) rfl ?_
    exact h
  · replace h := h.2 (of_decide_eq_false c)
    refine bw_iconst (v := (-1)) dX12_needs_8 (by decide) ?_
    exact bw_ireturn dX12_needs_9 rfl rfl ⟨_, rfl, h⟩
theorem wfX12_step {E : bw_E} {d : Nat} {w : bw_W} {Q : Int32 → bw_W → Prop} {a0 : Int32} {a1 : Int32} {a2 : Int32}  (h : ((¬ ((¬ (a0 < 0)) ∧ (¬ (((gw_i w 50 25) - 1) < a0))) → Q (-1000000) w) ∧ ((¬ (a0 < 0)) ∧ (¬ (((gw_i w 50 25) - 1) < a0)) → (vp_in a0 5) ∧
((¬ ((¬ (a1 < 0)) ∧ (¬ (((gw_i w 62 (a0.toNatClampNeg)) - 1) < a1))) → Q (-1000000) w) ∧ ((¬ (a1 < 0)) ∧ (¬ (((gw_i w 62 (a0.toNatClampNeg)) - 1) < a1)) → (((¬ (a2 < 0)) ∧ (¬ (4 < a2)) → ((¬ a2 = 4 → (vp_in ((4 * ((12 * a0) + a1)) + a2) 240) ∧
Q (gw_i w 60 (((4 * ((12 * a0) + a1)) + a2).toNatClampNeg)) w) ∧ (a2 = 4 → (vp_in ((12 * a0) + a1) 60) ∧
(∃ Q4 : Int32 → bw_W → Prop, bw_ri E (d + 1) mX12_lettersOf [.long (gw_l w 61 (((12 * a0) + a1).toNatClampNeg))] w Q4 ∧ ∀ v5 w6, Q4 v5 w6 →
Q v5 w6)))) ∧ (¬ ((¬ (a2 < 0)) ∧ (¬ (4 < a2))) → Q (-1000000) w))))))) : bw_ri E (d + 2) mX12_step [.ref 50, .int a0, .int a1, .int a2] w Q := by
  refine bw_enter rfl (Nat.le_of_ble_eq_true rfl) ?_
  refine bw_aload_n (i := 0) dX12_step_0 rfl rfl ?_
  refine bw_iload_n (i := 1) dX12_step_1 rfl rfl ?_
  refine bw_cVb (As := [.int a0]) (st := []) (Q' := (fun v w1 => (decide ((¬ (a0 < 0)) ∧ (¬ (((gw_i w 50 25) - 1) < a0)))) = v ∧ w = w1)) cv_BentWordsModel_493 rfl rfl (fs_X12_isScript (d := d + 0) (a0 := a0)  ⟨rfl, rfl⟩) rfl rfl (Nat.le_of_ble_eq_true rfl) dX12_step_2 (fun v w1 hv => ?_)
  obtain ⟨rfl, rfl⟩ := hv
  refine bw_ifb_eq (tgt := 33) dX12_step_5 (by decide) (fun c => ?_) (fun c => ?_)
  · replace h := h.1 (of_decide_eq_false c)
    refine bw_ldcw ki_BentWordsModel_259 dX12_step_33 ?_
    exact bw_ireturn dX12_step_36 rfl rfl ⟨_, rfl, h⟩
  · replace h := h.2 (of_decide_eq_true c)
    refine bw_iload_n (i := 2) dX12_step_8 rfl rfl ?_
    refine bw_iconst (v := 0) dX12_step_9 (by decide) ?_
    refine bw_aload_n (i := 0) dX12_step_10 rfl rfl ?_
    refine bw_getr (r := 62) fg_BentWordsModel_44 rfl rfl dX12_step_11 ?_
    refine bw_iload_n (i := 1) dX12_step_14 rfl rfl ?_
    obtain ⟨hi1, h⟩ := h
    refine bw_iaload rfl hi1 dX12_step_15 ?_
    refine bw_iconst (v := 1) dX12_step_16 (by decide) ?_
    refine bw_isub dX12_step_17 ?_
    refine bw_cSb (As := [.int a1, .int 0, .int ((gw_i w 62 (a0.toNatClampNeg)) - 1)]) (st := []) (Q' := (fun v w1 => (decide ((¬ (a1 < 0)) ∧ (¬ (((gw_i w 62 (a0.toNatClampNeg)) - 1) < a1)))) = v ∧ w = w1)) cs_BentWordsModel_100 (fs_X12_in (d := d + 1) (a0 := a1) (a1 := 0) (a2 := ((gw_i w 62 (a0.toNatClampNeg)) - 1))  ⟨rfl, rfl⟩) rfl rfl (Nat.le_of_ble_eq_true rfl) dX12_step_18 (fun v w1 hv => ?_)
    obtain ⟨rfl, rfl⟩ := hv
    refine bw_ifb_eq (tgt := 33) dX12_step_21 (by decide) (fun c => ?_) (fun c => ?_)
    · replace h := h.1 (of_decide_eq_false c)
      refine bw_ldcw ki_BentWordsModel_259 dX12_step_33 ?_
      exact bw_ireturn dX12_step_36 rfl rfl ⟨_, rfl, h⟩
    · replace h := h.2 (of_decide_eq_true c)
      refine bw_iload_n (i := 3) dX12_step_24 rfl rfl ?_
      refine bw_iconst (v := 0) dX12_step_25 (by decide) ?_
      refine bw_iconst (v := 4) dX12_step_26 (by decide) ?_
      refine bw_cSb (As := [.int a2, .int 0, .int 4]) (st := []) (Q' := (fun v w1 => (decide ((¬ (a2 < 0)) ∧ (¬ (4 < a2)))) = v ∧ w = w1)) cs_BentWordsModel_100 (fs_X12_in (d := d + 1) (a0 := a2) (a1 := 0) (a2 := 4)  ⟨rfl, rfl⟩) rfl rfl (Nat.le_of_ble_eq_true rfl) dX12_step_27 (fun v w1 hv => ?_)
      obtain ⟨rfl, rfl⟩ := hv
      refine bw_ifb_ne (tgt := 37) dX12_step_30 (by decide) (fun c => ?_) (fun c => ?_)
      · replace h := h.1 (of_decide_eq_true c)
        refine bw_iload_n (i := 3) dX12_step_37 rfl rfl ?_
        refine bw_iconst (v := 4) dX12_step_38 (by decide) ?_
        refine bw_icmp_ne (tgt := 59) dX12_step_39 (by decide) (fun c => ?_) (fun c => ?_)
        · replace h := h.1 (c)
          refine bw_aload_n (i := 0) dX12_step_59 rfl rfl ?_
          refine bw_getr (r := 60) fg_BentWordsModel_38 rfl rfl dX12_step_60 ?_
          refine bw_iconst (v := 4) dX12_step_63 (by decide) ?_
          refine bw_bipush (v := 12) dX12_step_64 (by decide) ?_
          refine bw_iload_n (i := 1) dX12_step_66 rfl rfl ?_
          refine bw_imul dX12_step_67 ?_
          refine bw_iload_n (i := 2) dX12_step_68 rfl rfl ?_
          refine bw_iadd dX12_step_69 ?_
          refine bw_imul dX12_step_70 ?_
          refine bw_iload_n (i := 3) dX12_step_71 rfl rfl ?_
          refine bw_iadd dX12_step_72 ?_
          obtain ⟨hi2, h⟩ := h
          refine bw_iaload rfl hi2 dX12_step_73 ?_
          exact bw_ireturn dX12_step_74 rfl rfl ⟨_, rfl, h⟩
        · replace h := h.2 (c)
          refine bw_aload_n (i := 0) dX12_step_42 rfl rfl ?_
          refine bw_getr (r := 61) fg_BentWordsModel_41 rfl rfl dX12_step_43 ?_
          refine bw_bipush (v := 12) dX12_step_46 (by decide) ?_
          refine bw_iload_n (i := 1) dX12_step_48 rfl rfl ?_
          refine bw_imul dX12_step_49 ?_
          refine bw_iload_n (i := 2) dX12_step_50 rfl rfl ?_
          refine bw_iadd dX12_step_51 ?_
          obtain ⟨hi3, h⟩ := h
          refine bw_laload rfl hi3 dX12_step_52 ?_
          obtain ⟨Q4, hr, h⟩ := h
          refine bw_cSi (As := [.long (gw_l w 61 (((12 * a0) + a1).toNatClampNeg))]) (st := []) cs_BentWordsModel_304 hr rfl rfl (Nat.le_of_ble_eq_true rfl) dX12_step_53 (fun v5 w6 hv => ?_)
          replace h := h v5 w6 hv
          clear hr
          refine bw_goto (tgt := 74) dX12_step_56 (by decide) ?_
          exact bw_ireturn dX12_step_74 rfl rfl ⟨_, rfl, h⟩
      · replace h := h.2 (of_decide_eq_false c)
        refine bw_ldcw ki_BentWordsModel_259 dX12_step_33 ?_
        exact bw_ireturn dX12_step_36 rfl rfl ⟨_, rfl, h⟩
theorem wfX4_readForm {E : bw_E} {d : Nat} {w : bw_W} {Q : Bool → bw_W → Prop} {a0 : Int32}  (h : (∃ Q1 : Bool → bw_W → Prop, bw_rb E (d + 2) mX0_takeWord [.ref 3] w Q1 ∧ ∀ v2 w3, Q1 v2 w3 →
((v2 = true → (∃ Q4 : Int32 → bw_W → Prop, bw_ri E (d + 2) mX3_nounNamed [.ref 5, .long (gw_l w3 3 5)] w3 Q4 ∧ ∀ v5 w6, Q4 v5 w6 →
((¬ v5 = (-1) → (∃ Q7 : Bool → bw_W → Prop, bw_rb E (d + 2) mX0_takeNumber [.ref 3, .int 1, .int 3] w6 Q7 ∧ ∀ v8 w9, Q7 v8 w9 →
((v8 = true → (∃ Q10 : Bool → bw_W → Prop, bw_rb E (d + 2) mX0_takeNumber [.ref 3, .int 1, .int 1] w9 Q10 ∧ ∀ v11 w12, Q10 v11 w12 →
((v11 = true → (∃ Q13 : Bool → bw_W → Prop, bw_rb E (d + 2) mX4_readWordOnce [.ref 4, .int a0, .ref 8, .int (((v5 * 8) + ((gw_i w9 3 4) * 2)) + (gw_i w12 3 4))] w12 Q13 ∧ ∀ v14 w15, Q13 v14 w15 →
Q v14 w15)) ∧ (v11 = false → Q false w12)))) ∧ (v8 = false → Q false w9)))) ∧ (v5 = (-1) → Q (decide False) (sw_i w6 3 3 (gw_i w6 3 2)))))) ∧ (v2 = false → Q false w3)))) : bw_rb E (d + 3) mX4_readForm [.ref 4, .int a0] w Q := by
  refine bw_enter rfl (Nat.le_of_ble_eq_true rfl) ?_
  refine bw_aload_n (i := 0) dX4_readForm_0 rfl rfl ?_
  refine bw_getr (r := 3) fg_BentWords_LexiconReader_9 rfl rfl dX4_readForm_1 ?_
  obtain ⟨Q1, hr, h⟩ := h
  refine bw_cVb (As := []) (st := []) cv_BentWords_LexiconReader_51 rfl rfl hr rfl rfl (Nat.le_of_ble_eq_true rfl) dX4_readForm_4 (fun v2 w3 hv => ?_)
  replace h := h v2 w3 hv
  clear hr
  refine bw_ifb_ne (tgt := 12) dX4_readForm_7 (by decide) (fun c => ?_) (fun c => ?_)
  · replace h := h.1 (c)
    refine bw_aload_n (i := 0) dX4_readForm_12 rfl rfl ?_
    refine bw_getr (r := 5) fg_BentWords_LexiconReader_18 rfl rfl dX4_readForm_13 ?_
    refine bw_aload_n (i := 0) dX4_readForm_16 rfl rfl ?_
    refine bw_getr (r := 3) fg_BentWords_LexiconReader_9 rfl rfl dX4_readForm_17 ?_
    refine bw_getl fg_BentWords_LexiconReader_95 rfl dX4_readForm_20 ?_
    obtain ⟨Q4, hr, h⟩ := h
    refine bw_cVi (As := [.long (gw_l w3 3 5)]) (st := []) cv_BentWords_LexiconReader_99 rfl rfl hr rfl rfl (Nat.le_of_ble_eq_true rfl) dX4_readForm_23 (fun v5 w6 hv => ?_)
    replace h := h v5 w6 hv
    clear hr
    refine bw_istore_n (i := 2) (L' := [some (.ref 4), some (.int a0), some (.int v5), none]) dX4_readForm_26 rfl (Nat.le_of_ble_eq_true rfl) rfl ?_
    refine bw_iload_n (i := 2) dX4_readForm_27 rfl rfl ?_
    refine bw_iconst (v := (-1)) dX4_readForm_28 (by decide) ?_
    refine bw_icmp_ne (tgt := 47) dX4_readForm_29 (by decide) (fun c => ?_) (fun c => ?_)
    · replace h := h.1 (c)
      refine bw_aload_n (i := 0) dX4_readForm_47 rfl rfl ?_
      refine bw_getr (r := 3) fg_BentWords_LexiconReader_9 rfl rfl dX4_readForm_48 ?_
      refine bw_iconst (v := 1) dX4_readForm_51 (by decide) ?_
      refine bw_iconst (v := 3) dX4_readForm_52 (by decide) ?_
      obtain ⟨Q7, hr, h⟩ := h
      refine bw_cVb (As := [.int 1, .int 3]) (st := []) cv_BentWords_LexiconReader_106 rfl rfl hr rfl rfl (Nat.le_of_ble_eq_true rfl) dX4_readForm_53 (fun v8 w9 hv => ?_)
      replace h := h v8 w9 hv
      clear hr
      refine bw_ifb_ne (tgt := 61) dX4_readForm_56 (by decide) (fun c => ?_) (fun c => ?_)
      · replace h := h.1 (c)
        refine bw_aload_n (i := 0) dX4_readForm_61 rfl rfl ?_
        refine bw_getr (r := 3) fg_BentWords_LexiconReader_9 rfl rfl dX4_readForm_62 ?_
        refine bw_geti fg_BentWords_LexiconReader_114 rfl dX4_readForm_65 ?_
        refine bw_istore_n (i := 3) (L' := [some (.ref 4), some (.int a0), some (.int v5), some (.int (gw_i w9 3 4))]) dX4_readForm_68 rfl (Nat.le_of_ble_eq_true rfl) rfl ?_
        refine bw_aload_n (i := 0) dX4_readForm_69 rfl rfl ?_
        refine bw_getr (r := 3) fg_BentWords_LexiconReader_9 rfl rfl dX4_readForm_70 ?_
        refine bw_iconst (v := 1) dX4_readForm_73 (by decide) ?_
        refine bw_iconst (v := 1) dX4_readForm_74 (by decide) ?_
        obtain ⟨Q10, hr, h⟩ := h
        refine bw_cVb (As := [.int 1, .int 1]) (st := []) cv_BentWords_LexiconReader_106 rfl rfl hr rfl rfl (Nat.le_of_ble_eq_true rfl) dX4_readForm_75 (fun v11 w12 hv => ?_)
        replace h := h v11 w12 hv
        clear hr
        refine bw_ifb_ne (tgt := 83) dX4_readForm_78 (by decide) (fun c => ?_) (fun c => ?_)
        · replace h := h.1 (c)
          refine bw_aload_n (i := 0) dX4_readForm_83 rfl rfl ?_
          refine bw_iload_n (i := 1) dX4_readForm_84 rfl rfl ?_
          refine bw_aload_n (i := 0) dX4_readForm_85 rfl rfl ?_
          refine bw_getr (r := 5) fg_BentWords_LexiconReader_18 rfl rfl dX4_readForm_86 ?_
          refine bw_getr (r := 8) fg_BentWords_LexiconReader_117 rfl rfl dX4_readForm_89 ?_
          refine bw_iload_n (i := 2) dX4_readForm_92 rfl rfl ?_
          refine bw_iload_n (i := 3) dX4_readForm_93 rfl rfl ?_
          refine bw_aload_n (i := 0) dX4_readForm_94 rfl rfl ?_
          refine bw_getr (r := 3) fg_BentWords_LexiconReader_9 rfl rfl dX4_readForm_95 ?_
          refine bw_geti fg_BentWords_LexiconReader_114 rfl dX4_readForm_98 ?_
          refine bw_cSi (As := [.int v5, .int (gw_i w9 3 4), .int (gw_i w12 3 4)]) (st := [.ref 8, .int a0, .ref 4]) (Q' := (fun v w1 => (((v5 * 8) + ((gw_i w9 3 4) * 2)) + (gw_i w12 3 4)) = v ∧ w12 = w1)) cs_BentWords_LexiconReader_120 (fs_X7_formCell (d := d + 2) (a0 := v5) (a1 := (gw_i w9 3 4)) (a2 := (gw_i w12 3 4))  ⟨rfl, rfl⟩) rfl rfl (Nat.le_of_ble_eq_true rfl) dX4_readForm_101 (fun v w1 hv => ?_)
          obtain ⟨rfl, rfl⟩ := hv
          obtain ⟨Q13, hr, h⟩ := h
          refine bw_cVb (As := [.int a0, .ref 8, .int (((v5 * 8) + ((gw_i w9 3 4) * 2)) + (gw_i w12 3 4))]) (st := []) cv_BentWords_LexiconReader_126 rfl rfl hr rfl rfl (Nat.le_of_ble_eq_true rfl) dX4_readForm_104 (fun v14 w15 hv => ?_)
          replace h := h v14 w15 hv
          clear hr
          exact bw_ireturn dX4_readForm_107 rfl (bw_nb _) ⟨_, rfl, h⟩
        · replace h := h.2 (c)
          refine bw_iconst (v := 0) dX4_readForm_81 (by decide) ?_
          exact bw_ireturn dX4_readForm_82 rfl (bw_nb false) ⟨false, rfl, h⟩
      · replace h := h.2 (c)
        refine bw_iconst (v := 0) dX4_readForm_59 (by decide) ?_
        exact bw_ireturn dX4_readForm_60 rfl (bw_nb false) ⟨false, rfl, h⟩
    · replace h := h.2 (c)
      refine bw_aload_n (i := 0) dX4_readForm_32 rfl rfl ?_
      refine bw_getr (r := 3) fg_BentWords_LexiconReader_9 rfl rfl dX4_readForm_33 ?_
      refine bw_aload_n (i := 0) dX4_readForm_36 rfl rfl ?_
      refine bw_getr (r := 3) fg_BentWords_LexiconReader_9 rfl rfl dX4_readForm_37 ?_
      refine bw_geti fg_BentWords_LexiconReader_54 rfl dX4_readForm_40 ?_
      refine bw_cVb (As := [.int (gw_i w6 3 2)]) (st := []) (Q' := (fun v w1 => (decide False) = v ∧ (sw_i w6 3 3 (gw_i w6 3 2)) = w1)) cv_BentWords_LexiconReader_92 rfl rfl (fs_X0_fail (d := d + 2) (a0 := (gw_i w6 3 2))  ⟨rfl, rfl⟩) rfl rfl (Nat.le_of_ble_eq_true rfl) dX4_readForm_43 (fun v w1 hv => ?_)
      obtain ⟨rfl, rfl⟩ := hv
      exact bw_ireturn dX4_readForm_46 rfl (bw_nb _) ⟨_, rfl, h⟩
  · replace h := h.2 (c)
    refine bw_iconst (v := 0) dX4_readForm_10 (by decide) ?_
    exact bw_ireturn dX4_readForm_11 rfl (bw_nb false) ⟨false, rfl, h⟩
theorem wfX4_readBoundWord {E : bw_E} {d : Nat} {w : bw_W} {Q : Bool → bw_W → Prop} {a0 : Int32} {ta : Nat} (h_ta : bw_sh ta = (2, 24, 0)) (h : (∃ Q1 : Bool → bw_W → Prop, bw_rb E (d + 2) mX0_takeNumber [.ref 3, .int 1, .int 3] w Q1 ∧ ∀ v2 w3, Q1 v2 w3 →
((v2 = true → (∃ Q4 : Bool → bw_W → Prop, bw_rb E (d + 2) mX0_takeNumber [.ref 3, .int 1, .int 1] w3 Q4 ∧ ∀ v5 w6, Q4 v5 w6 →
((v5 = true → (∃ Q7 : Bool → bw_W → Prop, bw_rb E (d + 2) mX0_takeNumber [.ref 3, .int 1, .int 2] w6 Q7 ∧ ∀ v8 w9, Q7 v8 w9 →
((v8 = true → (∃ Q10 : Bool → bw_W → Prop, bw_rb E (d + 2) mX4_readWordOnce [.ref 4, .int a0, .ref ta, .int (((((gw_i w3 3 4) * 2) + (gw_i w6 3 4)) * 3) + (gw_i w9 3 4))] w9 Q10 ∧ ∀ v11 w12, Q10 v11 w12 →
Q v11 w12)) ∧ (v8 = false → Q false w9)))) ∧ (v5 = false → Q false w6)))) ∧ (v2 = false → Q false w3)))) : bw_rb E (d + 3) mX4_readBoundWord [.ref 4, .int a0, .ref ta] w Q := by
  refine bw_enter rfl (Nat.le_of_ble_eq_true rfl) ?_
  refine bw_aload_n (i := 0) dX4_readBoundWord_0 rfl rfl ?_
  refine bw_getr (r := 3) fg_BentWords_LexiconReader_9 rfl rfl dX4_readBoundWord_1 ?_
  refine bw_iconst (v := 1) dX4_readBoundWord_4 (by decide) ?_
  refine bw_iconst (v := 3) dX4_readBoundWord_5 (by decide) ?_
  obtain ⟨Q1, hr, h⟩ := h
  refine bw_cVb (As := [.int 1, .int 3]) (st := []) cv_BentWords_LexiconReader_106 rfl rfl hr rfl rfl (Nat.le_of_ble_eq_true rfl) dX4_readBoundWord_6 (fun v2 w3 hv => ?_)
  replace h := h v2 w3 hv
  clear hr
  refine bw_ifb_ne (tgt := 14) dX4_readBoundWord_9 (by decide) (fun c => ?_) (fun c => ?_)
  · replace h := h.1 (c)
    refine bw_aload_n (i := 0) dX4_readBoundWord_14 rfl rfl ?_
    refine bw_getr (r := 3) fg_BentWords_LexiconReader_9 rfl rfl dX4_readBoundWord_15 ?_
    refine bw_geti fg_BentWords_LexiconReader_114 rfl dX4_readBoundWord_18 ?_
    refine bw_istore_n (i := 3) (L' := [some (.ref 4), some (.int a0), some (.ref ta), some (.int (gw_i w3 3 4)), none]) dX4_readBoundWord_21 rfl (Nat.le_of_ble_eq_true rfl) rfl ?_
    refine bw_aload_n (i := 0) dX4_readBoundWord_22 rfl rfl ?_
    refine bw_getr (r := 3) fg_BentWords_LexiconReader_9 rfl rfl dX4_readBoundWord_23 ?_
    refine bw_iconst (v := 1) dX4_readBoundWord_26 (by decide) ?_
    refine bw_iconst (v := 1) dX4_readBoundWord_27 (by decide) ?_
    obtain ⟨Q4, hr, h⟩ := h
    refine bw_cVb (As := [.int 1, .int 1]) (st := []) cv_BentWords_LexiconReader_106 rfl rfl hr rfl rfl (Nat.le_of_ble_eq_true rfl) dX4_readBoundWord_28 (fun v5 w6 hv => ?_)
    replace h := h v5 w6 hv
    clear hr
    refine bw_ifb_ne (tgt := 36) dX4_readBoundWord_31 (by decide) (fun c => ?_) (fun c => ?_)
    · replace h := h.1 (c)
      refine bw_aload_n (i := 0) dX4_readBoundWord_36 rfl rfl ?_
      refine bw_getr (r := 3) fg_BentWords_LexiconReader_9 rfl rfl dX4_readBoundWord_37 ?_
      refine bw_geti fg_BentWords_LexiconReader_114 rfl dX4_readBoundWord_40 ?_
      refine bw_istore (i := 4) (L' := [some (.ref 4), some (.int a0), some (.ref ta), some (.int (gw_i w3 3 4)), some (.int (gw_i w6 3 4))]) dX4_readBoundWord_43 (Nat.le_of_ble_eq_true rfl) rfl ?_
      refine bw_aload_n (i := 0) dX4_readBoundWord_45 rfl rfl ?_
      refine bw_getr (r := 3) fg_BentWords_LexiconReader_9 rfl rfl dX4_readBoundWord_46 ?_
      refine bw_iconst (v := 1) dX4_readBoundWord_49 (by decide) ?_
      refine bw_iconst (v := 2) dX4_readBoundWord_50 (by decide) ?_
      obtain ⟨Q7, hr, h⟩ := h
      refine bw_cVb (As := [.int 1, .int 2]) (st := []) cv_BentWords_LexiconReader_106 rfl rfl hr rfl rfl (Nat.le_of_ble_eq_true rfl) dX4_readBoundWord_51 (fun v8 w9 hv => ?_)
      replace h := h v8 w9 hv
      clear hr
      refine bw_ifb_ne (tgt := 59) dX4_readBoundWord_54 (by decide) (fun c => ?_) (fun c => ?_)
      · replace h := h.1 (c)
        refine bw_aload_n (i := 0) dX4_readBoundWord_59 rfl rfl ?_
        refine bw_iload_n (i := 1) dX4_readBoundWord_60 rfl rfl ?_
        refine bw_aload_n (i := 2) dX4_readBoundWord_61 rfl rfl ?_
        refine bw_iload_n (i := 3) dX4_readBoundWord_62 rfl rfl ?_
        refine bw_iload dX4_readBoundWord_63 rfl ?_
        refine bw_aload_n (i := 0) dX4_readBoundWord_65 rfl rfl ?_
        refine bw_getr (r := 3) fg_BentWords_LexiconReader_9 rfl rfl dX4_readBoundWord_66 ?_
        refine bw_geti fg_BentWords_LexiconReader_114 rfl dX4_readBoundWord_69 ?_
        refine bw_cSi (As := [.int (gw_i w3 3 4), .int (gw_i w6 3 4), .int (gw_i w9 3 4)]) (st := [.ref ta, .int a0, .ref 4]) (Q' := (fun v w1 => (((((gw_i w3 3 4) * 2) + (gw_i w6 3 4)) * 3) + (gw_i w9 3 4)) = v ∧ w9 = w1)) cs_BentWords_LexiconReader_130 (fs_X3_boundSlot (d := d + 2) (a0 := (gw_i w3 3 4)) (a1 := (gw_i w6 3 4)) (a2 := (gw_i w9 3 4))  ⟨rfl, rfl⟩) rfl rfl (Nat.le_of_ble_eq_true rfl) dX4_readBoundWord_72 (fun v w1 hv => ?_)
        obtain ⟨rfl, rfl⟩ := hv
        obtain ⟨Q10, hr, h⟩ := h
        refine bw_cVb (As := [.int a0, .ref ta, .int (((((gw_i w3 3 4) * 2) + (gw_i w6 3 4)) * 3) + (gw_i w9 3 4))]) (st := []) cv_BentWords_LexiconReader_126 rfl rfl hr rfl rfl (Nat.le_of_ble_eq_true rfl) dX4_readBoundWord_75 (fun v11 w12 hv => ?_)
        replace h := h v11 w12 hv
        clear hr
        exact bw_ireturn dX4_readBoundWord_78 rfl (bw_nb _) ⟨_, rfl, h⟩
      · replace h := h.2 (c)
        refine bw_iconst (v := 0) dX4_readBoundWord_57 (by decide) ?_
        exact bw_ireturn dX4_readBoundWord_58 rfl (bw_nb false) ⟨false, rfl, h⟩
    · replace h := h.2 (c)
      refine bw_iconst (v := 0) dX4_readBoundWord_34 (by decide) ?_
      exact bw_ireturn dX4_readBoundWord_35 rfl (bw_nb false) ⟨false, rfl, h⟩
  · replace h := h.2 (c)
    refine bw_iconst (v := 0) dX4_readBoundWord_12 (by decide) ?_
    exact bw_ireturn dX4_readBoundWord_13 rfl (bw_nb false) ⟨false, rfl, h⟩
theorem wfX4_readMessage_85 {E : bw_E} {d : Nat} {w : bw_W} {Q : Bool → bw_W → Prop} {l1 : Int32} {l2 : Int32} {l3 : Int32}  (h : ((8 ≤ l3 → (vp_in l2 4) ∧
Q true (sw_i (sw_i w 12 (l2.toNatClampNeg) l3) 5 6 ((gw_i w 5 6) + 1))) ∧ (¬ (8 ≤ l3) → ((l3 = 0 → (∃ Q2 : Bool → bw_W → Prop, bw_rb E (d + 2) mX4_readItem [.ref 4, .int ((l2 * 8) + l3)] w Q2 ∧ ∀ v3 w4, Q2 v3 w4 →
((v3 = true → bw_G E (d + 3) mX4_readMessage 85 [some (.ref 4), some (.int l1), some (.int l2), some (.int (l3 + 1))] [] w4 (bw_qb Q)) ∧ (v3 = false → Q false w4)))) ∧ (¬ (l3 = 0) → (∃ Q5 : Bool → bw_W → Prop, bw_rb E (d + 2) mX4_isAtClauseEnd [.ref 4] w Q5 ∧ ∀ v6 w7, Q5 v6 w7 →
((v6 = true → (vp_in l2 4) ∧
Q true (sw_i (sw_i w7 12 (l2.toNatClampNeg) l3) 5 6 ((gw_i w7 5 6) + 1))) ∧ (v6 = false → (∃ Q9 : Bool → bw_W → Prop, bw_rb E (d + 2) mX4_readItem [.ref 4, .int ((l2 * 8) + l3)] w7 Q9 ∧ ∀ v10 w11, Q9 v10 w11 →
((v10 = true → bw_G E (d + 3) mX4_readMessage 85 [some (.ref 4), some (.int l1), some (.int l2), some (.int (l3 + 1))] [] w11 (bw_qb Q)) ∧ (v10 = false → Q false w11))))))))))) : bw_G E (d + 3) mX4_readMessage 85 [some (.ref 4), some (.int l1), some (.int l2), some (.int l3)] [] w (bw_qb Q) := by
  refine bw_iload_n (i := 3) dX4_readMessage_85 rfl rfl ?_
  refine bw_bipush (v := 8) dX4_readMessage_86 (by decide) ?_
  refine bw_icmp_ge (tgt := 123) dX4_readMessage_88 (by decide) (fun c => ?_) (fun c => ?_)
  · replace h := h.1 (c)
    refine bw_aload_n (i := 0) dX4_readMessage_123 rfl rfl ?_
    refine bw_getr (r := 5) fg_BentWords_LexiconReader_18 rfl rfl dX4_readMessage_124 ?_
    refine bw_getr (r := 12) fg_BentWords_LexiconReader_148 rfl rfl dX4_readMessage_127 ?_
    refine bw_iload_n (i := 2) dX4_readMessage_130 rfl rfl ?_
    refine bw_iload_n (i := 3) dX4_readMessage_131 rfl rfl ?_
    obtain ⟨hi1, h⟩ := h
    refine bw_iastore rfl hi1 dX4_readMessage_132 ?_
    refine bw_aload_n (i := 0) dX4_readMessage_133 rfl rfl ?_
    refine bw_getr (r := 5) fg_BentWords_LexiconReader_18 rfl rfl dX4_readMessage_134 ?_
    refine bw_dup dX4_readMessage_137 rfl ?_
    refine bw_geti fg_BentWords_LexiconReader_133 rfl dX4_readMessage_138 ?_
    rw [show gw_i (sw_i w 12 (l2.toNatClampNeg) l3) 5 6 = (gw_i w 5 6) from rfl]
    refine bw_iconst (v := 1) dX4_readMessage_141 (by decide) ?_
    refine bw_iadd dX4_readMessage_142 ?_
    refine bw_puti fp_BentWords_LexiconReader_133 rfl rfl rfl dX4_readMessage_143 ?_
    refine bw_iconst (v := 1) dX4_readMessage_146 (by decide) ?_
    exact bw_ireturn dX4_readMessage_147 rfl (bw_nb true) ⟨true, rfl, h⟩
  · replace h := h.2 (c)
    refine bw_iload_n (i := 3) dX4_readMessage_91 rfl rfl ?_
    refine bw_if_eq (tgt := 102) dX4_readMessage_92 (by decide) (fun c => ?_) (fun c => ?_)
    · replace h := h.1 (c)
      refine bw_aload_n (i := 0) dX4_readMessage_102 rfl rfl ?_
      refine bw_iload_n (i := 2) dX4_readMessage_103 rfl rfl ?_
      refine bw_bipush (v := 8) dX4_readMessage_104 (by decide) ?_
      refine bw_imul dX4_readMessage_106 ?_
      refine bw_iload_n (i := 3) dX4_readMessage_107 rfl rfl ?_
      refine bw_iadd dX4_readMessage_108 ?_
      obtain ⟨Q2, hr, h⟩ := h
      refine bw_cVb (As := [.int ((l2 * 8) + l3)]) (st := []) cv_BentWords_LexiconReader_145 rfl rfl hr rfl rfl (Nat.le_of_ble_eq_true rfl) dX4_readMessage_109 (fun v3 w4 hv => ?_)
      replace h := h v3 w4 hv
      clear hr
      refine bw_ifb_ne (tgt := 117) dX4_readMessage_112 (by decide) (fun c => ?_) (fun c => ?_)
      · replace h := h.1 (c)
        refine bw_iinc (i := 3) (x := l3) (v := (l3 + 1)) (L' := [some (.ref 4), some (.int l1), some (.int l2), some (.int (l3 + 1))]) dX4_readMessage_117 rfl rfl (Nat.le_of_ble_eq_true rfl) rfl ?_
        refine bw_goto (tgt := 85) dX4_readMessage_120 (by decide) ?_
        exact h
      · replace h := h.2 (c)
        refine bw_iconst (v := 0) dX4_readMessage_115 (by decide) ?_
        exact bw_ireturn dX4_readMessage_116 rfl (bw_nb false) ⟨false, rfl, h⟩
    · replace h := h.2 (c)
      refine bw_aload_n (i := 0) dX4_readMessage_95 rfl rfl ?_
      obtain ⟨Q5, hr, h⟩ := h
      refine bw_cVb (As := []) (st := []) cv_BentWords_LexiconReader_142 rfl rfl hr rfl rfl (Nat.le_of_ble_eq_true rfl) dX4_readMessage_96 (fun v6 w7 hv => ?_)
      replace h := h v6 w7 hv
      clear hr
      refine bw_ifb_ne (tgt := 123) dX4_readMessage_99 (by decide) (fun c => ?_) (fun c => ?_)
      · replace h := h.1 (c)
        refine bw_aload_n (i := 0) dX4_readMessage_123 rfl rfl ?_
        refine bw_getr (r := 5) fg_BentWords_LexiconReader_18 rfl rfl dX4_readMessage_124 ?_
        refine bw_getr (r := 12) fg_BentWords_LexiconReader_148 rfl rfl dX4_readMessage_127 ?_
        refine bw_iload_n (i := 2) dX4_readMessage_130 rfl rfl ?_
        refine bw_iload_n (i := 3) dX4_readMessage_131 rfl rfl ?_
        obtain ⟨hi8, h⟩ := h
        refine bw_iastore rfl hi8 dX4_readMessage_132 ?_
        refine bw_aload_n (i := 0) dX4_readMessage_133 rfl rfl ?_
        refine bw_getr (r := 5) fg_BentWords_LexiconReader_18 rfl rfl dX4_readMessage_134 ?_
        refine bw_dup dX4_readMessage_137 rfl ?_
        refine bw_geti fg_BentWords_LexiconReader_133 rfl dX4_readMessage_138 ?_
        rw [show gw_i (sw_i w7 12 (l2.toNatClampNeg) l3) 5 6 = (gw_i w7 5 6) from rfl]
        refine bw_iconst (v := 1) dX4_readMessage_141 (by decide) ?_
        refine bw_iadd dX4_readMessage_142 ?_
        refine bw_puti fp_BentWords_LexiconReader_133 rfl rfl rfl dX4_readMessage_143 ?_
        refine bw_iconst (v := 1) dX4_readMessage_146 (by decide) ?_
        exact bw_ireturn dX4_readMessage_147 rfl (bw_nb true) ⟨true, rfl, h⟩
      · replace h := h.2 (c)
        refine bw_aload_n (i := 0) dX4_readMessage_102 rfl rfl ?_
        refine bw_iload_n (i := 2) dX4_readMessage_103 rfl rfl ?_
        refine bw_bipush (v := 8) dX4_readMessage_104 (by decide) ?_
        refine bw_imul dX4_readMessage_106 ?_
        refine bw_iload_n (i := 3) dX4_readMessage_107 rfl rfl ?_
        refine bw_iadd dX4_readMessage_108 ?_
        obtain ⟨Q9, hr, h⟩ := h
        refine bw_cVb (As := [.int ((l2 * 8) + l3)]) (st := []) cv_BentWords_LexiconReader_145 rfl rfl hr rfl rfl (Nat.le_of_ble_eq_true rfl) dX4_readMessage_109 (fun v10 w11 hv => ?_)
        replace h := h v10 w11 hv
        clear hr
        refine bw_ifb_ne (tgt := 117) dX4_readMessage_112 (by decide) (fun c => ?_) (fun c => ?_)
        · replace h := h.1 (c)
          refine bw_iinc (i := 3) (x := l3) (v := (l3 + 1)) (L' := [some (.ref 4), some (.int l1), some (.int l2), some (.int (l3 + 1))]) dX4_readMessage_117 rfl rfl (Nat.le_of_ble_eq_true rfl) rfl ?_
          refine bw_goto (tgt := 85) dX4_readMessage_120 (by decide) ?_
          exact h
        · replace h := h.2 (c)
          refine bw_iconst (v := 0) dX4_readMessage_115 (by decide) ?_
          exact bw_ireturn dX4_readMessage_116 rfl (bw_nb false) ⟨false, rfl, h⟩
theorem wfX4_readMessage {E : bw_E} {d : Nat} {w : bw_W} {Q : Bool → bw_W → Prop} {a0 : Int32}  (h : (((gw_i w 5 6) < 4 → (∃ Q1 : Bool → bw_W → Prop, bw_rb E (d + 2) mX0_takeWord [.ref 3] w Q1 ∧ ∀ v2 w3, Q1 v2 w3 →
((v2 = true → (∃ Q4 : Int32 → bw_W → Prop, bw_ri E (d + 2) mX3_messageNamed [.ref 5, .long (gw_l w3 3 5)] w3 Q4 ∧ ∀ v5 w6, Q4 v5 w6 →
((v5 = (-1) → (vp_in (gw_i w 5 6) 4) ∧
bw_G E (d + 3) mX4_readMessage 85 [some (.ref 4), some (.int a0), some (.int (gw_i w 5 6)), some (.int 0)] [] (sw_l w6 11 ((gw_i w 5 6).toNatClampNeg) (gw_l w6 3 5)) (bw_qb Q)) ∧ (¬ (v5 = (-1)) → Q (decide False) (sw_i w6 3 3 (gw_i w6 3 2)))))) ∧ (v2 = false → Q false w3)))) ∧ (¬ ((gw_i w 5 6) < 4) → Q (decide False) (sw_i w 3 3 a0)))) : bw_rb E (d + 3) mX4_readMessage [.ref 4, .int a0] w Q := by
  refine bw_enter rfl (Nat.le_of_ble_eq_true rfl) ?_
  refine bw_aload_n (i := 0) dX4_readMessage_0 rfl rfl ?_
  refine bw_getr (r := 5) fg_BentWords_LexiconReader_18 rfl rfl dX4_readMessage_1 ?_
  refine bw_geti fg_BentWords_LexiconReader_133 rfl dX4_readMessage_4 ?_
  refine bw_istore_n (i := 2) (L' := [some (.ref 4), some (.int a0), some (.int (gw_i w 5 6)), none]) dX4_readMessage_7 rfl (Nat.le_of_ble_eq_true rfl) rfl ?_
  refine bw_iload_n (i := 2) dX4_readMessage_8 rfl rfl ?_
  refine bw_iconst (v := 4) dX4_readMessage_9 (by decide) ?_
  refine bw_icmp_lt (tgt := 22) dX4_readMessage_10 (by decide) (fun c => ?_) (fun c => ?_)
  · replace h := h.1 (c)
    refine bw_aload_n (i := 0) dX4_readMessage_22 rfl rfl ?_
    refine bw_getr (r := 3) fg_BentWords_LexiconReader_9 rfl rfl dX4_readMessage_23 ?_
    obtain ⟨Q1, hr, h⟩ := h
    refine bw_cVb (As := []) (st := []) cv_BentWords_LexiconReader_51 rfl rfl hr rfl rfl (Nat.le_of_ble_eq_true rfl) dX4_readMessage_26 (fun v2 w3 hv => ?_)
    replace h := h v2 w3 hv
    clear hr
    refine bw_ifb_ne (tgt := 34) dX4_readMessage_29 (by decide) (fun c => ?_) (fun c => ?_)
    · replace h := h.1 (c)
      refine bw_aload_n (i := 0) dX4_readMessage_34 rfl rfl ?_
      refine bw_getr (r := 5) fg_BentWords_LexiconReader_18 rfl rfl dX4_readMessage_35 ?_
      refine bw_aload_n (i := 0) dX4_readMessage_38 rfl rfl ?_
      refine bw_getr (r := 3) fg_BentWords_LexiconReader_9 rfl rfl dX4_readMessage_39 ?_
      refine bw_getl fg_BentWords_LexiconReader_95 rfl dX4_readMessage_42 ?_
      obtain ⟨Q4, hr, h⟩ := h
      refine bw_cVi (As := [.long (gw_l w3 3 5)]) (st := []) cv_BentWords_LexiconReader_136 rfl rfl hr rfl rfl (Nat.le_of_ble_eq_true rfl) dX4_readMessage_45 (fun v5 w6 hv => ?_)
      replace h := h v5 w6 hv
      clear hr
      refine bw_iconst (v := (-1)) dX4_readMessage_48 (by decide) ?_
      refine bw_icmp_eq (tgt := 67) dX4_readMessage_49 (by decide) (fun c => ?_) (fun c => ?_)
      · replace h := h.1 (c)
        refine bw_aload_n (i := 0) dX4_readMessage_67 rfl rfl ?_
        refine bw_getr (r := 5) fg_BentWords_LexiconReader_18 rfl rfl dX4_readMessage_68 ?_
        refine bw_getr (r := 11) fg_BentWords_LexiconReader_139 rfl rfl dX4_readMessage_71 ?_
        refine bw_iload_n (i := 2) dX4_readMessage_74 rfl rfl ?_
        refine bw_aload_n (i := 0) dX4_readMessage_75 rfl rfl ?_
        refine bw_getr (r := 3) fg_BentWords_LexiconReader_9 rfl rfl dX4_readMessage_76 ?_
        refine bw_getl fg_BentWords_LexiconReader_95 rfl dX4_readMessage_79 ?_
        obtain ⟨hi7, h⟩ := h
        refine bw_lastore rfl hi7 dX4_readMessage_82 ?_
        refine bw_iconst (v := 0) dX4_readMessage_83 (by decide) ?_
        refine bw_istore_n (i := 3) (L' := [some (.ref 4), some (.int a0), some (.int (gw_i w 5 6)), some (.int 0)]) dX4_readMessage_84 rfl (Nat.le_of_ble_eq_true rfl) rfl ?_
        exact h
      · replace h := h.2 (c)
        refine bw_aload_n (i := 0) dX4_readMessage_52 rfl rfl ?_
        refine bw_getr (r := 3) fg_BentWords_LexiconReader_9 rfl rfl dX4_readMessage_53 ?_
        refine bw_aload_n (i := 0) dX4_readMessage_56 rfl rfl ?_
        refine bw_getr (r := 3) fg_BentWords_LexiconReader_9 rfl rfl dX4_readMessage_57 ?_
        refine bw_geti fg_BentWords_LexiconReader_54 rfl dX4_readMessage_60 ?_
        refine bw_cVb (As := [.int (gw_i w6 3 2)]) (st := []) (Q' := (fun v w1 => (decide False) = v ∧ (sw_i w6 3 3 (gw_i w6 3 2)) = w1)) cv_BentWords_LexiconReader_92 rfl rfl (fs_X0_fail (d := d + 2) (a0 := (gw_i w6 3 2))  ⟨rfl, rfl⟩) rfl rfl (Nat.le_of_ble_eq_true rfl) dX4_readMessage_63 (fun v w1 hv => ?_)
        obtain ⟨rfl, rfl⟩ := hv
        exact bw_ireturn dX4_readMessage_66 rfl (bw_nb _) ⟨_, rfl, h⟩
    · replace h := h.2 (c)
      refine bw_iconst (v := 0) dX4_readMessage_32 (by decide) ?_
      exact bw_ireturn dX4_readMessage_33 rfl (bw_nb false) ⟨false, rfl, h⟩
  · replace h := h.2 (c)
    refine bw_aload_n (i := 0) dX4_readMessage_13 rfl rfl ?_
    refine bw_getr (r := 3) fg_BentWords_LexiconReader_9 rfl rfl dX4_readMessage_14 ?_
    refine bw_iload_n (i := 1) dX4_readMessage_17 rfl rfl ?_
    refine bw_cVb (As := [.int a0]) (st := []) (Q' := (fun v w1 => (decide False) = v ∧ (sw_i w 3 3 a0) = w1)) cv_BentWords_LexiconReader_92 rfl rfl (fs_X0_fail (d := d + 2) (a0 := a0)  ⟨rfl, rfl⟩) rfl rfl (Nat.le_of_ble_eq_true rfl) dX4_readMessage_18 (fun v w1 hv => ?_)
    obtain ⟨rfl, rfl⟩ := hv
    exact bw_ireturn dX4_readMessage_21 rfl (bw_nb _) ⟨_, rfl, h⟩
theorem wfX6_readSlot {E : bw_E} {d : Nat} {w : bw_W} {Q : Bool → bw_W → Prop} {sp : Nat} (h_sp : bw_sh sp = (0, 8, 5)) (h : (∃ Q1 : Bool → bw_W → Prop, bw_rb E (d + 2) mX6_readA [.ref 17, .ref sp, .int 9] w Q1 ∧ ∀ v2 w3, Q1 v2 w3 →
((v2 = false → Q false w3) ∧ (v2 = true → (∃ Q4 : Bool → bw_W → Prop, bw_rb E (d + 2) mX6_readB [.ref 17, .ref sp, .int 3] w3 Q4 ∧ ∀ v5 w6, Q4 v5 w6 →
((v5 = true → (∃ Q7 : Bool → bw_W → Prop, bw_rb E (d + 2) mX0_takeNumber [.ref 3, .int 1, .int 1] w6 Q7 ∧ ∀ v8 w9, Q7 v8 w9 →
Q v8 (sw_i w9 sp 3 (gw_i w9 3 4)))) ∧ (v5 = false → Q false w6))))))) : bw_rb E (d + 3) mX6_readSlot [.ref 17, .ref sp] w Q := by
  refine bw_enter rfl (Nat.le_of_ble_eq_true rfl) ?_
  refine bw_aload_n (i := 0) dX6_readSlot_0 rfl rfl ?_
  refine bw_aload_n (i := 1) dX6_readSlot_1 rfl rfl ?_
  refine bw_bipush (v := 9) dX6_readSlot_2 (by decide) ?_
  obtain ⟨Q1, hr, h⟩ := h
  refine bw_cVb (As := [.ref sp, .int 9]) (st := []) cv_BentWords_ScriptReader_66 rfl rfl hr rfl rfl (Nat.le_of_ble_eq_true rfl) dX6_readSlot_4 (fun v2 w3 hv => ?_)
  replace h := h v2 w3 hv
  clear hr
  refine bw_ifb_eq (tgt := 19) dX6_readSlot_7 (by decide) (fun c => ?_) (fun c => ?_)
  · replace h := h.1 (c)
    refine bw_iconst (v := 0) dX6_readSlot_19 (by decide) ?_
    exact bw_ireturn dX6_readSlot_20 rfl (bw_nb false) ⟨false, rfl, h⟩
  · replace h := h.2 (c)
    refine bw_aload_n (i := 0) dX6_readSlot_10 rfl rfl ?_
    refine bw_aload_n (i := 1) dX6_readSlot_11 rfl rfl ?_
    refine bw_iconst (v := 3) dX6_readSlot_12 (by decide) ?_
    obtain ⟨Q4, hr, h⟩ := h
    refine bw_cVb (As := [.ref sp, .int 3]) (st := []) cv_BentWords_ScriptReader_70 rfl rfl hr rfl rfl (Nat.le_of_ble_eq_true rfl) dX6_readSlot_13 (fun v5 w6 hv => ?_)
    replace h := h v5 w6 hv
    clear hr
    refine bw_ifb_ne (tgt := 21) dX6_readSlot_16 (by decide) (fun c => ?_) (fun c => ?_)
    · replace h := h.1 (c)
      refine bw_aload_n (i := 0) dX6_readSlot_21 rfl rfl ?_
      refine bw_getr (r := 3) fg_BentWords_ScriptReader_9 rfl rfl dX6_readSlot_22 ?_
      refine bw_iconst (v := 1) dX6_readSlot_25 (by decide) ?_
      refine bw_iconst (v := 1) dX6_readSlot_26 (by decide) ?_
      obtain ⟨Q7, hr, h⟩ := h
      refine bw_cVb (As := [.int 1, .int 1]) (st := []) cv_BentWords_ScriptReader_97 rfl rfl hr rfl rfl (Nat.le_of_ble_eq_true rfl) dX6_readSlot_27 (fun v8 w9 hv => ?_)
      replace h := h v8 w9 hv
      clear hr
      refine bw_istore_n (i := 2) (L' := [some (.ref 17), some (.ref sp), some (.int (bw_b v8))]) dX6_readSlot_30 rfl (Nat.le_of_ble_eq_true rfl) rfl ?_
      refine bw_aload_n (i := 1) dX6_readSlot_31 rfl rfl ?_
      refine bw_aload_n (i := 0) dX6_readSlot_32 rfl rfl ?_
      refine bw_getr (r := 3) fg_BentWords_ScriptReader_9 rfl rfl dX6_readSlot_33 ?_
      refine bw_geti fg_BentWords_ScriptReader_101 rfl dX6_readSlot_36 ?_
      refine bw_puti fp_BentWords_ScriptReader_110 h_sp rfl rfl dX6_readSlot_39 ?_
      refine bw_iload_n (i := 2) dX6_readSlot_42 rfl rfl ?_
      exact bw_ireturn dX6_readSlot_43 rfl (bw_nb _) ⟨_, rfl, h⟩
    · replace h := h.2 (c)
      refine bw_iconst (v := 0) dX6_readSlot_19 (by decide) ?_
      exact bw_ireturn dX6_readSlot_20 rfl (bw_nb false) ⟨false, rfl, h⟩
theorem wfX10_canTell_7 {E : bw_E} {d : Nat} {w : bw_W} {Q : Bool → bw_W → Prop} {l1 : Int32} {l2 : Int32} {l3 : Int32}  (h : (vp_in l1 4) ∧
(((gw_i w 25 (l1.toNatClampNeg)) ≤ l3 → Q true w) ∧ (¬ ((gw_i w 25 (l1.toNatClampNeg)) ≤ l3) → (∃ Q2 : Bool → bw_W → Prop, bw_rb E (d + 2) mX10_canTellItem [.ref 35, .int (l2 + l3)] w Q2 ∧ ∀ v3 w4, Q2 v3 w4 →
((v3 = true → bw_G E (d + 3) mX10_canTell 7 [some (.ref 35), some (.int l1), some (.int l2), some (.int (l3 + 1))] [] w4 (bw_qb Q)) ∧ (v3 = false → Q false (sw_i w4 35 4 l3))))))) : bw_G E (d + 3) mX10_canTell 7 [some (.ref 35), some (.int l1), some (.int l2), some (.int l3)] [] w (bw_qb Q) := by
  refine bw_iload_n (i := 3) dX10_canTell_7 rfl rfl ?_
  refine bw_aload_n (i := 0) dX10_canTell_8 rfl rfl ?_
  refine bw_getr (r := 18) fg_BentWords_Teller_9 rfl rfl dX10_canTell_9 ?_
  refine bw_getr (r := 25) fg_BentWords_Teller_53 rfl rfl dX10_canTell_12 ?_
  refine bw_iload_n (i := 1) dX10_canTell_15 rfl rfl ?_
  obtain ⟨hi1, h⟩ := h
  refine bw_iaload rfl hi1 dX10_canTell_16 ?_
  refine bw_icmp_ge (tgt := 43) dX10_canTell_17 (by decide) (fun c => ?_) (fun c => ?_)
  · replace h := h.1 (c)
    refine bw_iconst (v := 1) dX10_canTell_43 (by decide) ?_
    exact bw_ireturn dX10_canTell_44 rfl (bw_nb true) ⟨true, rfl, h⟩
  · replace h := h.2 (c)
    refine bw_aload_n (i := 0) dX10_canTell_20 rfl rfl ?_
    refine bw_iload_n (i := 2) dX10_canTell_21 rfl rfl ?_
    refine bw_iload_n (i := 3) dX10_canTell_22 rfl rfl ?_
    refine bw_iadd dX10_canTell_23 ?_
    obtain ⟨Q2, hr, h⟩ := h
    refine bw_cVb (As := [.int (l2 + l3)]) (st := []) cv_BentWords_Teller_57 rfl rfl hr rfl rfl (Nat.le_of_ble_eq_true rfl) dX10_canTell_24 (fun v3 w4 hv => ?_)
    replace h := h v3 w4 hv
    clear hr
    refine bw_ifb_ne (tgt := 37) dX10_canTell_27 (by decide) (fun c => ?_) (fun c => ?_)
    · replace h := h.1 (c)
      refine bw_iinc (i := 3) (x := l3) (v := (l3 + 1)) (L' := [some (.ref 35), some (.int l1), some (.int l2), some (.int (l3 + 1))]) dX10_canTell_37 rfl rfl (Nat.le_of_ble_eq_true rfl) rfl ?_
      refine bw_goto (tgt := 7) dX10_canTell_40 (by decide) ?_
      exact h
    · replace h := h.2 (c)
      refine bw_aload_n (i := 0) dX10_canTell_30 rfl rfl ?_
      refine bw_iload_n (i := 3) dX10_canTell_31 rfl rfl ?_
      refine bw_puti fp_BentWords_Teller_60 rfl rfl rfl dX10_canTell_32 ?_
      refine bw_iconst (v := 0) dX10_canTell_35 (by decide) ?_
      exact bw_ireturn dX10_canTell_36 rfl (bw_nb false) ⟨false, rfl, h⟩
theorem wfX10_canTell {E : bw_E} {d : Nat} {w : bw_W} {Q : Bool → bw_W → Prop} {a0 : Int32}  (h : bw_G E (d + 3) mX10_canTell 7 [some (.ref 35), some (.int a0), some (.int (a0 * 8)), some (.int 0)] [] w (bw_qb Q)) : bw_rb E (d + 3) mX10_canTell [.ref 35, .int a0] w Q := by
  refine bw_enter rfl (Nat.le_of_ble_eq_true rfl) ?_
  refine bw_iload_n (i := 1) dX10_canTell_0 rfl rfl ?_
  refine bw_bipush (v := 8) dX10_canTell_1 (by decide) ?_
  refine bw_imul dX10_canTell_3 ?_
  refine bw_istore_n (i := 2) (L' := [some (.ref 35), some (.int a0), some (.int (a0 * 8)), none]) dX10_canTell_4 rfl (Nat.le_of_ble_eq_true rfl) rfl ?_
  refine bw_iconst (v := 0) dX10_canTell_5 (by decide) ?_
  refine bw_istore_n (i := 3) (L' := [some (.ref 35), some (.int a0), some (.int (a0 * 8)), some (.int 0)]) dX10_canTell_6 rfl (Nat.le_of_ble_eq_true rfl) rfl ?_
  exact h
theorem wfX10_putItem {E : bw_E} {d : Nat} {w : bw_W} {Q : bw_W → Prop} {a0 : Int32}  (h : (vp_in a0 32) ∧
(((gw_i w 26 (a0.toNatClampNeg)) = 35 → (∃ Q2 : Int64 → bw_W → Prop, bw_rl E (d + 2) mX10_formIn [.ref 35, .int a0] w Q2 ∧ ∀ v3 w4, Q2 v3 w4 →
(∃ Q5 : bw_W → Prop, bw_rv E (d + 2) mX10_putWord [.ref 35, .long v3] w4 Q5 ∧ ∀ w7, Q5 w7 →
Q w7))) ∧ ((gw_i w 26 (a0.toNatClampNeg)) = 36 → (vp_in a0 32) ∧
(((vp_in (48 + (gw_i w 27 (a0.toNatClampNeg))) 52))) ∧
(∃ Q10 : bw_W → Prop, bw_rv E (d + 2) mX10_putNumber [.ref 35, .int (vX7_countIn w (gw_i w 27 (a0.toNatClampNeg)))] w Q10 ∧ ∀ w12, Q10 w12 →
Q w12)) ∧ ((gw_i w 26 (a0.toNatClampNeg)) = 37 → (∃ Q13 : Int64 → bw_W → Prop, bw_rl E (d + 2) mX10_boundWordIn [.ref 35, .int a0] w Q13 ∧ ∀ v14 w15, Q13 v14 w15 →
(∃ Q16 : bw_W → Prop, bw_rv E (d + 2) mX10_putWord [.ref 35, .long v14] w15 Q16 ∧ ∀ w18, Q16 w18 →
Q w18))) ∧ ((gw_i w 26 (a0.toNatClampNeg)) = 64 → (∃ Q19 : Int64 → bw_W → Prop, bw_rl E (d + 2) mX10_boundWordIn [.ref 35, .int a0] w Q19 ∧ ∀ v20 w21, Q19 v20 w21 →
(∃ Q22 : bw_W → Prop, bw_rv E (d + 2) mX10_putWord [.ref 35, .long v20] w21 Q22 ∧ ∀ w24, Q22 w24 →
(∃ Q25 : Int64 → bw_W → Prop, bw_rl E (d + 2) mX10_formIn [.ref 35, .int a0] w24 Q25 ∧ ∀ v26 w27, Q25 v26 w27 →
(∃ Q28 : bw_W → Prop, bw_rv E (d + 2) mX10_putWord [.ref 35, .long v26] w27 Q28 ∧ ∀ w30, Q28 w30 →
Q w30))))) ∧ ((gw_i w 26 (a0.toNatClampNeg)) = 119 → (vp_in a0 32) ∧
(∃ Q32 : bw_W → Prop, bw_rv E (d + 2) mX10_putWord [.ref 35, .long (gw_l w 29 (a0.toNatClampNeg))] w Q32 ∧ ∀ w34, Q32 w34 →
Q w34)) ∧ (¬ (gw_i w 26 (a0.toNatClampNeg)) = 35 → ¬ (gw_i w 26 (a0.toNatClampNeg)) = 36 → ¬ (gw_i w 26 (a0.toNatClampNeg)) = 37 → ¬ (gw_i w 26 (a0.toNatClampNeg)) = 64 → ¬ (gw_i w 26 (a0.toNatClampNeg)) = 119 → Q w))) : bw_rv E (d + 3) mX10_putItem [.ref 35, .int a0] w Q := by
  refine bw_enter rfl (Nat.le_of_ble_eq_true rfl) ?_
  refine bw_aload_n (i := 0) dX10_putItem_0 rfl rfl ?_
  refine bw_getr (r := 18) fg_BentWords_Teller_9 rfl rfl dX10_putItem_1 ?_
  refine bw_getr (r := 26) fg_BentWords_Teller_69 rfl rfl dX10_putItem_4 ?_
  refine bw_iload_n (i := 1) dX10_putItem_7 rfl rfl ?_
  obtain ⟨hi1, h⟩ := h
  refine bw_caload rfl hi1 dX10_putItem_8 ?_
  by_cases c0 : (gw_i w 26 (a0.toNatClampNeg)) = 35
  · refine bw_lookE (off := 67) (tgt := 76) (v := 35) dX10_putItem_9 c0 (by decide) (by decide) (by decide) ?_
    replace h := h.1 c0
    refine bw_aload_n (i := 0) dX10_putItem_76 rfl rfl ?_
    refine bw_aload_n (i := 0) dX10_putItem_77 rfl rfl ?_
    refine bw_iload_n (i := 1) dX10_putItem_78 rfl rfl ?_
    obtain ⟨Q2, hr, h⟩ := h
    refine bw_cVl (As := [.int a0]) (st := [.ref 35]) cv_BentWords_Teller_144 rfl rfl hr rfl rfl (Nat.le_of_ble_eq_true rfl) dX10_putItem_79 (fun v3 w4 hv => ?_)
    replace h := h v3 w4 hv
    clear hr
    obtain ⟨Q5, hr, h⟩ := h
    refine bw_cVv (As := [.long v3]) (st := []) cv_BentWords_Teller_140 rfl rfl hr rfl rfl (Nat.le_of_ble_eq_true rfl) dX10_putItem_82 (fun w7 hv => ?_)
    replace h := h w7 hv
    clear hr
    refine bw_goto (tgt := 144) dX10_putItem_85 (by decide) ?_
    exact bw_return dX10_putItem_144 rfl ⟨rfl, h⟩
  by_cases c1 : (gw_i w 26 (a0.toNatClampNeg)) = 36
  · refine bw_lookE (off := 112) (tgt := 121) (v := 36) dX10_putItem_9 c1 (by decide) (by decide) (by decide) ?_
    replace h := h.2.1 c1
    refine bw_aload_n (i := 0) dX10_putItem_121 rfl rfl ?_
    refine bw_aload_n (i := 0) dX10_putItem_122 rfl rfl ?_
    refine bw_getr (r := 31) fg_BentWords_Teller_15 rfl rfl dX10_putItem_123 ?_
    refine bw_aload_n (i := 0) dX10_putItem_126 rfl rfl ?_
    refine bw_getr (r := 18) fg_BentWords_Teller_9 rfl rfl dX10_putItem_127 ?_
    refine bw_getr (r := 27) fg_BentWords_Teller_72 rfl rfl dX10_putItem_130 ?_
    refine bw_iload_n (i := 1) dX10_putItem_133 rfl rfl ?_
    obtain ⟨hi8, h⟩ := h
    refine bw_iaload rfl hi8 dX10_putItem_134 ?_
    obtain ⟨hc9, h⟩ := h
    refine bw_cVi (As := [.int (gw_i w 27 (a0.toNatClampNeg))]) (st := [.ref 35]) (Q' := (fun v w1 => (vX7_countIn w (gw_i w 27 (a0.toNatClampNeg))) = v ∧ w = w1)) cv_BentWords_Teller_151 rfl rfl (fs_X7_countIn (d := d + 2) (a0 := (gw_i w 27 (a0.toNatClampNeg))) hc9 ⟨rfl, rfl⟩) rfl rfl (Nat.le_of_ble_eq_true rfl) dX10_putItem_135 (fun v w1 hv => ?_)
    obtain ⟨rfl, rfl⟩ := hv
    obtain ⟨Q10, hr, h⟩ := h
    refine bw_cVv (As := [.int (vX7_countIn w (gw_i w 27 (a0.toNatClampNeg)))]) (st := []) cv_BentWords_Teller_154 rfl rfl hr rfl rfl (Nat.le_of_ble_eq_true rfl) dX10_putItem_138 (fun w12 hv => ?_)
    replace h := h w12 hv
    clear hr
    refine bw_goto (tgt := 144) dX10_putItem_141 (by decide) ?_
    exact bw_return dX10_putItem_144 rfl ⟨rfl, h⟩
  by_cases c2 : (gw_i w 26 (a0.toNatClampNeg)) = 37
  · refine bw_lookE (off := 100) (tgt := 109) (v := 37) dX10_putItem_9 c2 (by decide) (by decide) (by decide) ?_
    replace h := h.2.2.1 c2
    refine bw_aload_n (i := 0) dX10_putItem_109 rfl rfl ?_
    refine bw_aload_n (i := 0) dX10_putItem_110 rfl rfl ?_
    refine bw_iload_n (i := 1) dX10_putItem_111 rfl rfl ?_
    obtain ⟨Q13, hr, h⟩ := h
    refine bw_cVl (As := [.int a0]) (st := [.ref 35]) cv_BentWords_Teller_148 rfl rfl hr rfl rfl (Nat.le_of_ble_eq_true rfl) dX10_putItem_112 (fun v14 w15 hv => ?_)
    replace h := h v14 w15 hv
    clear hr
    obtain ⟨Q16, hr, h⟩ := h
    refine bw_cVv (As := [.long v14]) (st := []) cv_BentWords_Teller_140 rfl rfl hr rfl rfl (Nat.le_of_ble_eq_true rfl) dX10_putItem_115 (fun w18 hv => ?_)
    replace h := h w18 hv
    clear hr
    refine bw_goto (tgt := 144) dX10_putItem_118 (by decide) ?_
    exact bw_return dX10_putItem_144 rfl ⟨rfl, h⟩
  by_cases c3 : (gw_i w 26 (a0.toNatClampNeg)) = 64
  · refine bw_lookE (off := 79) (tgt := 88) (v := 64) dX10_putItem_9 c3 (by decide) (by decide) (by decide) ?_
    replace h := h.2.2.2.1 c3
    refine bw_aload_n (i := 0) dX10_putItem_88 rfl rfl ?_
    refine bw_aload_n (i := 0) dX10_putItem_89 rfl rfl ?_
    refine bw_iload_n (i := 1) dX10_putItem_90 rfl rfl ?_
    obtain ⟨Q19, hr, h⟩ := h
    refine bw_cVl (As := [.int a0]) (st := [.ref 35]) cv_BentWords_Teller_148 rfl rfl hr rfl rfl (Nat.le_of_ble_eq_true rfl) dX10_putItem_91 (fun v20 w21 hv => ?_)
    replace h := h v20 w21 hv
    clear hr
    obtain ⟨Q22, hr, h⟩ := h
    refine bw_cVv (As := [.long v20]) (st := []) cv_BentWords_Teller_140 rfl rfl hr rfl rfl (Nat.le_of_ble_eq_true rfl) dX10_putItem_94 (fun w24 hv => ?_)
    replace h := h w24 hv
    clear hr
    refine bw_aload_n (i := 0) dX10_putItem_97 rfl rfl ?_
    refine bw_aload_n (i := 0) dX10_putItem_98 rfl rfl ?_
    refine bw_iload_n (i := 1) dX10_putItem_99 rfl rfl ?_
    obtain ⟨Q25, hr, h⟩ := h
    refine bw_cVl (As := [.int a0]) (st := [.ref 35]) cv_BentWords_Teller_144 rfl rfl hr rfl rfl (Nat.le_of_ble_eq_true rfl) dX10_putItem_100 (fun v26 w27 hv => ?_)
    replace h := h v26 w27 hv
    clear hr
    obtain ⟨Q28, hr, h⟩ := h
    refine bw_cVv (As := [.long v26]) (st := []) cv_BentWords_Teller_140 rfl rfl hr rfl rfl (Nat.le_of_ble_eq_true rfl) dX10_putItem_103 (fun w30 hv => ?_)
    replace h := h w30 hv
    clear hr
    refine bw_goto (tgt := 144) dX10_putItem_106 (by decide) ?_
    exact bw_return dX10_putItem_144 rfl ⟨rfl, h⟩
  by_cases c4 : (gw_i w 26 (a0.toNatClampNeg)) = 119
  · refine bw_lookE (off := 51) (tgt := 60) (v := 119) dX10_putItem_9 c4 (by decide) (by decide) (by decide) ?_
    replace h := h.2.2.2.2.1 c4
    refine bw_aload_n (i := 0) dX10_putItem_60 rfl rfl ?_
    refine bw_aload_n (i := 0) dX10_putItem_61 rfl rfl ?_
    refine bw_getr (r := 18) fg_BentWords_Teller_9 rfl rfl dX10_putItem_62 ?_
    refine bw_getr (r := 29) fg_BentWords_Teller_137 rfl rfl dX10_putItem_65 ?_
    refine bw_iload_n (i := 1) dX10_putItem_68 rfl rfl ?_
    obtain ⟨hi31, h⟩ := h
    refine bw_laload rfl hi31 dX10_putItem_69 ?_
    obtain ⟨Q32, hr, h⟩ := h
    refine bw_cVv (As := [.long (gw_l w 29 (a0.toNatClampNeg))]) (st := []) cv_BentWords_Teller_140 rfl rfl hr rfl rfl (Nat.le_of_ble_eq_true rfl) dX10_putItem_70 (fun w34 hv => ?_)
    replace h := h w34 hv
    clear hr
    refine bw_goto (tgt := 144) dX10_putItem_73 (by decide) ?_
    exact bw_return dX10_putItem_144 rfl ⟨rfl, h⟩
  refine bw_lookD (tgt := 144) dX10_putItem_9 (by decide) ?_ (by decide) ?_
  · intro q hq
    simp only [List.mem_cons, List.mem_nil_iff, or_false] at hq
    rcases hq with rfl | rfl | rfl | rfl | rfl <;> first | exact bw_nei c0 (by decide) | exact bw_nei c1 (by decide) | exact bw_nei c2 (by decide) | exact bw_nei c3 (by decide) | exact bw_nei c4 (by decide)
  · replace h := h.2.2.2.2.2 c0 c1 c2 c3 c4
    exact bw_return dX10_putItem_144 rfl ⟨rfl, h⟩
theorem wfX10_missingOf_10 {E : bw_E} {d : Nat} {w : bw_W} {Q : Int32 → bw_W → Prop} {l1 : Int32} {l2 : Int32} {l3 : Int32} {l4 : Int32}  (h : (vp_in l1 4) ∧
(((l3 + (gw_i w 25 (l1.toNatClampNeg))) ≤ l4 → Q l2 w) ∧ (¬ ((l3 + (gw_i w 25 (l1.toNatClampNeg))) ≤ l4) → (∃ Q2 : Bool → bw_W → Prop, bw_rb E (d + 2) mX10_isMissing [.ref 35, .int l4] w Q2 ∧ ∀ v3 w4, Q2 v3 w4 →
((v3 = false → bw_G E (d + 3) mX10_missingOf 10 [some (.ref 35), some (.int l1), some (.int l2), some (.int l3), some (.int (l4 + 1))] [] w4 (bw_qi Q)) ∧ (v3 = true → bw_G E (d + 3) mX10_missingOf 10 [some (.ref 35), some (.int l1), some (.int (l2 + 1)), some (.int l3), some (.int (l4 + 1))] [] w4 (bw_qi Q))))))) : bw_G E (d + 3) mX10_missingOf 10 [some (.ref 35), some (.int l1), some (.int l2), some (.int l3), some (.int l4)] [] w (bw_qi Q) := by
  refine bw_iload dX10_missingOf_10 rfl ?_
  refine bw_iload_n (i := 3) dX10_missingOf_12 rfl rfl ?_
  refine bw_aload_n (i := 0) dX10_missingOf_13 rfl rfl ?_
  refine bw_getr (r := 18) fg_BentWords_Teller_9 rfl rfl dX10_missingOf_14 ?_
  refine bw_getr (r := 25) fg_BentWords_Teller_53 rfl rfl dX10_missingOf_17 ?_
  refine bw_iload_n (i := 1) dX10_missingOf_20 rfl rfl ?_
  obtain ⟨hi1, h⟩ := h
  refine bw_iaload rfl hi1 dX10_missingOf_21 ?_
  refine bw_iadd dX10_missingOf_22 ?_
  refine bw_icmp_ge (tgt := 44) dX10_missingOf_23 (by decide) (fun c => ?_) (fun c => ?_)
  · replace h := h.1 (c)
    refine bw_iload_n (i := 2) dX10_missingOf_44 rfl rfl ?_
    exact bw_ireturn dX10_missingOf_45 rfl rfl ⟨_, rfl, h⟩
  · replace h := h.2 (c)
    refine bw_aload_n (i := 0) dX10_missingOf_26 rfl rfl ?_
    refine bw_iload dX10_missingOf_27 rfl ?_
    obtain ⟨Q2, hr, h⟩ := h
    refine bw_cVb (As := [.int l4]) (st := []) cv_BentWords_Teller_177 rfl rfl hr rfl rfl (Nat.le_of_ble_eq_true rfl) dX10_missingOf_29 (fun v3 w4 hv => ?_)
    replace h := h v3 w4 hv
    clear hr
    refine bw_ifb_eq (tgt := 38) dX10_missingOf_32 (by decide) (fun c => ?_) (fun c => ?_)
    · replace h := h.1 (c)
      refine bw_iinc (i := 4) (x := l4) (v := (l4 + 1)) (L' := [some (.ref 35), some (.int l1), some (.int l2), some (.int l3), some (.int (l4 + 1))]) dX10_missingOf_38 rfl rfl (Nat.le_of_ble_eq_true rfl) rfl ?_
      refine bw_goto (tgt := 10) dX10_missingOf_41 (by decide) ?_
      exact h
    · replace h := h.2 (c)
      refine bw_iinc (i := 2) (x := l2) (v := (l2 + 1)) (L' := [some (.ref 35), some (.int l1), some (.int (l2 + 1)), some (.int l3), some (.int l4)]) dX10_missingOf_35 rfl rfl (Nat.le_of_ble_eq_true rfl) rfl ?_
      refine bw_iinc (i := 4) (x := l4) (v := (l4 + 1)) (L' := [some (.ref 35), some (.int l1), some (.int (l2 + 1)), some (.int l3), some (.int (l4 + 1))]) dX10_missingOf_38 rfl rfl (Nat.le_of_ble_eq_true rfl) rfl ?_
      refine bw_goto (tgt := 10) dX10_missingOf_41 (by decide) ?_
      exact h
theorem wfX10_missingOf {E : bw_E} {d : Nat} {w : bw_W} {Q : Int32 → bw_W → Prop} {a0 : Int32}  (h : bw_G E (d + 3) mX10_missingOf 10 [some (.ref 35), some (.int a0), some (.int 0), some (.int (a0 * 8)), some (.int (a0 * 8))] [] w (bw_qi Q)) : bw_ri E (d + 3) mX10_missingOf [.ref 35, .int a0] w Q := by
  refine bw_enter rfl (Nat.le_of_ble_eq_true rfl) ?_
  refine bw_iconst (v := 0) dX10_missingOf_0 (by decide) ?_
  refine bw_istore_n (i := 2) (L' := [some (.ref 35), some (.int a0), some (.int 0), none, none]) dX10_missingOf_1 rfl (Nat.le_of_ble_eq_true rfl) rfl ?_
  refine bw_iload_n (i := 1) dX10_missingOf_2 rfl rfl ?_
  refine bw_bipush (v := 8) dX10_missingOf_3 (by decide) ?_
  refine bw_imul dX10_missingOf_5 ?_
  refine bw_istore_n (i := 3) (L' := [some (.ref 35), some (.int a0), some (.int 0), some (.int (a0 * 8)), none]) dX10_missingOf_6 rfl (Nat.le_of_ble_eq_true rfl) rfl ?_
  refine bw_iload_n (i := 3) dX10_missingOf_7 rfl rfl ?_
  refine bw_istore (i := 4) (L' := [some (.ref 35), some (.int a0), some (.int 0), some (.int (a0 * 8)), some (.int (a0 * 8))]) dX10_missingOf_8 (Nat.le_of_ble_eq_true rfl) rfl ?_
  exact h
