theorem wfX11_byDefault {E : bw_E} {d : Nat} {w : bw_W} {Q : Int32 → bw_W → Prop} {a0 : Int32} {a1 : Int32} {a2 : Int32}  (h : ((¬ ((¬ (a0 < 0)) ∧ (¬ ((gw_i w 18 0) ≤ a0))) → Q (-1) w) ∧ ((¬ (a0 < 0)) ∧ (¬ ((gw_i w 18 0) ≤ a0)) → (((¬ (a1 < 0)) ∧ ((¬ (4 ≤ a1)) ∧ ((¬ (a2 < 0)) ∧ (¬ (2 ≤ a2)))) → (∃ Q1 : Int32 → bw_W → Prop, bw_ri E (d + 0) mX7_defaultOf [.ref 31, .int a0, .int a1, .int a2] w Q1 ∧ ∀ v2 w3, Q1 v2 w3 →
Q v2 w3)) ∧ (¬ ((¬ (a1 < 0)) ∧ ((¬ (4 ≤ a1)) ∧ ((¬ (a2 < 0)) ∧ (¬ (2 ≤ a2))))) → Q (-1) w))))) : bw_ri E (d + 1) mX11_byDefault [.ref 0, .int a0, .int a1, .int a2] w Q := by
  refine bw_enter rfl (Nat.le_of_ble_eq_true rfl) ?_
  refine bw_aload_n (i := 0) dX11_byDefault_0 rfl rfl ?_
  refine bw_iload_n (i := 1) dX11_byDefault_1 rfl rfl ?_
  refine bw_cVb (As := [.int a0]) (st := []) (Q' := (fun v w1 => (decide ((¬ (a0 < 0)) ∧ (¬ ((gw_i w 18 0) ≤ a0)))) = v ∧ w = w1)) cv_BentWords_180 rfl rfl (fs_X11_hasNoun (d := d + 0) (a0 := a0)  ⟨rfl, rfl⟩) rfl rfl (Nat.le_of_ble_eq_true rfl) dX11_byDefault_2 (fun v w1 hv => ?_)
  obtain ⟨rfl, rfl⟩ := hv
  refine bw_ifb_eq (tgt := 16) dX11_byDefault_5 (by decide) (fun c => ?_) (fun c => ?_)
  · replace h := h.1 (of_decide_eq_false c)
    refine bw_iconst (v := (-1)) dX11_byDefault_16 (by decide) ?_
    exact bw_ireturn dX11_byDefault_17 rfl rfl ⟨_, rfl, h⟩
  · replace h := h.2 (of_decide_eq_true c)
    refine bw_iload_n (i := 2) dX11_byDefault_8 rfl rfl ?_
    refine bw_iload_n (i := 3) dX11_byDefault_9 rfl rfl ?_
    refine bw_cSb (As := [.int a1, .int a2]) (st := []) (Q' := (fun v w1 => (decide ((¬ (a1 < 0)) ∧ ((¬ (4 ≤ a1)) ∧ ((¬ (a2 < 0)) ∧ (¬ (2 ≤ a2)))))) = v ∧ w = w1)) cs_BentWords_200 (fs_X11_isSlot (d := d + 0) (a0 := a1) (a1 := a2)  ⟨rfl, rfl⟩) rfl rfl (Nat.le_of_ble_eq_true rfl) dX11_byDefault_10 (fun v w1 hv => ?_)
    obtain ⟨rfl, rfl⟩ := hv
    refine bw_ifb_ne (tgt := 18) dX11_byDefault_13 (by decide) (fun c => ?_) (fun c => ?_)
    · replace h := h.1 (of_decide_eq_true c)
      refine bw_aload_n (i := 0) dX11_byDefault_18 rfl rfl ?_
      refine bw_getr (r := 31) fg_BentWords_58 rfl rfl dX11_byDefault_19 ?_
      refine bw_iload_n (i := 1) dX11_byDefault_22 rfl rfl ?_
      refine bw_iload_n (i := 2) dX11_byDefault_23 rfl rfl ?_
      refine bw_iload_n (i := 3) dX11_byDefault_24 rfl rfl ?_
      obtain ⟨Q1, hr, h⟩ := h
      refine bw_cVi (As := [.int a0, .int a1, .int a2]) (st := []) cv_BentWords_212 rfl rfl hr rfl rfl (Nat.le_of_ble_eq_true rfl) dX11_byDefault_25 (fun v2 w3 hv => ?_)
      replace h := h v2 w3 hv
      clear hr
      exact bw_ireturn dX11_byDefault_28 rfl rfl ⟨_, rfl, h⟩
    · replace h := h.2 (of_decide_eq_false c)
      refine bw_iconst (v := (-1)) dX11_byDefault_16 (by decide) ?_
      exact bw_ireturn dX11_byDefault_17 rfl rfl ⟨_, rfl, h⟩
theorem wfX11_hole {E : bw_E} {d : Nat} {w : bw_W} {Q : Int32 → bw_W → Prop} {a0 : Int32} {a1 : Int32}  (h : (((gw_i w 0 5) = 0 → Q (-1) w) ∧ (¬ ((gw_i w 0 5) = 0) → ((¬ ((¬ (a0 < 0)) ∧ (¬ (3 ≤ a0))) → Q (-1) w) ∧ ((¬ (a0 < 0)) ∧ (¬ (3 ≤ a0)) → (((vp_in (48 + a0) 52))) ∧
((¬ ((gw_l w 32 ((48 + a0).toNatClampNeg)) = 0) → ((a1 = 0 → (((vp_in (48 + a0) 52))) ∧
Q (vX7_nounIn w a0) w) ∧ (a1 = 1 → (((vp_in (48 + a0) 52))) ∧
Q (vX7_countIn w a0) w) ∧ (a1 = 2 → (((vp_in (48 + a0) 52))) ∧
Q (vX7_numberIn w a0) w) ∧ (a1.toInt < 0 ∨ 2 < a1.toInt → Q (-1) w))) ∧ (((gw_l w 32 ((48 + a0).toNatClampNeg)) = 0) → Q (-1) w))))))) : bw_ri E (d + 1) mX11_hole [.ref 0, .int a0, .int a1] w Q := by
  refine bw_enter rfl (Nat.le_of_ble_eq_true rfl) ?_
  refine bw_aload_n (i := 0) dX11_hole_0 rfl rfl ?_
  refine bw_geti fg_BentWords_140 rfl dX11_hole_1 ?_
  refine bw_if_eq (tgt := 25) dX11_hole_4 (by decide) (fun c => ?_) (fun c => ?_)
  · replace h := h.1 (c)
    refine bw_iconst (v := (-1)) dX11_hole_25 (by decide) ?_
    exact bw_ireturn dX11_hole_26 rfl rfl ⟨_, rfl, h⟩
  · replace h := h.2 (c)
    refine bw_iload_n (i := 1) dX11_hole_7 rfl rfl ?_
    refine bw_cSb (As := [.int a0]) (st := []) (Q' := (fun v w1 => (decide ((¬ (a0 < 0)) ∧ (¬ (3 ≤ a0)))) = v ∧ w = w1)) cs_BentWords_220 (fs_X11_isHole (d := d + 0) (a0 := a0)  ⟨rfl, rfl⟩) rfl rfl (Nat.le_of_ble_eq_true rfl) dX11_hole_8 (fun v w1 hv => ?_)
    obtain ⟨rfl, rfl⟩ := hv
    refine bw_ifb_eq (tgt := 25) dX11_hole_11 (by decide) (fun c => ?_) (fun c => ?_)
    · replace h := h.1 (of_decide_eq_false c)
      refine bw_iconst (v := (-1)) dX11_hole_25 (by decide) ?_
      exact bw_ireturn dX11_hole_26 rfl rfl ⟨_, rfl, h⟩
    · replace h := h.2 (of_decide_eq_true c)
      refine bw_aload_n (i := 0) dX11_hole_14 rfl rfl ?_
      refine bw_getr (r := 31) fg_BentWords_58 rfl rfl dX11_hole_15 ?_
      refine bw_iload_n (i := 1) dX11_hole_18 rfl rfl ?_
      obtain ⟨hc1, h⟩ := h
      refine bw_cVb (As := [.int a0]) (st := []) (Q' := (fun v w1 => (decide ((gw_l w 32 ((48 + a0).toNatClampNeg)) = 0)) = v ∧ w = w1)) cv_BentWords_223 rfl rfl (fs_X7_isOpen (d := d + 0) (a0 := a0) hc1 ⟨rfl, rfl⟩) rfl rfl (Nat.le_of_ble_eq_true rfl) dX11_hole_19 (fun v w1 hv => ?_)
      obtain ⟨rfl, rfl⟩ := hv
      refine bw_ifb_eq (tgt := 27) dX11_hole_22 (by decide) (fun c => ?_) (fun c => ?_)
      · replace h := h.1 (of_decide_eq_false c)
        refine bw_iload_n (i := 2) dX11_hole_27 rfl rfl ?_
        refine bw_tabsw dX11_hole_28 [56, 65, 74] 83 (by decide) rfl rfl (fun j hj hx => ?_) (fun hx => ?_)
        · match j, hj, hx with
          | 0, _, hx =>
            replace h := h.1 (bw_ti hx (by decide))
            refine bw_aload_n (i := 0) dX11_hole_56 rfl rfl ?_
            refine bw_getr (r := 31) fg_BentWords_58 rfl rfl dX11_hole_57 ?_
            refine bw_iload_n (i := 1) dX11_hole_60 rfl rfl ?_
            obtain ⟨hc2, h⟩ := h
            refine bw_cVi (As := [.int a0]) (st := []) (Q' := (fun v w1 => (vX7_nounIn w a0) = v ∧ w = w1)) cv_BentWords_226 rfl rfl (fs_X7_nounIn (d := d + 0) (a0 := a0) hc2 ⟨rfl, rfl⟩) rfl rfl (Nat.le_of_ble_eq_true rfl) dX11_hole_61 (fun v w1 hv => ?_)
            obtain ⟨rfl, rfl⟩ := hv
            exact bw_ireturn dX11_hole_64 rfl rfl ⟨_, rfl, h⟩
          | 1, _, hx =>
            replace h := h.2.1 (bw_ti hx (by decide))
            refine bw_aload_n (i := 0) dX11_hole_65 rfl rfl ?_
            refine bw_getr (r := 31) fg_BentWords_58 rfl rfl dX11_hole_66 ?_
            refine bw_iload_n (i := 1) dX11_hole_69 rfl rfl ?_
            obtain ⟨hc3, h⟩ := h
            refine bw_cVi (As := [.int a0]) (st := []) (Q' := (fun v w1 => (vX7_countIn w a0) = v ∧ w = w1)) cv_BentWords_229 rfl rfl (fs_X7_countIn (d := d + 0) (a0 := a0) hc3 ⟨rfl, rfl⟩) rfl rfl (Nat.le_of_ble_eq_true rfl) dX11_hole_70 (fun v w1 hv => ?_)
            obtain ⟨rfl, rfl⟩ := hv
            exact bw_ireturn dX11_hole_73 rfl rfl ⟨_, rfl, h⟩
          | 2, _, hx =>
            replace h := h.2.2.1 (bw_ti hx (by decide))
            refine bw_aload_n (i := 0) dX11_hole_74 rfl rfl ?_
            refine bw_getr (r := 31) fg_BentWords_58 rfl rfl dX11_hole_75 ?_
            refine bw_iload_n (i := 1) dX11_hole_78 rfl rfl ?_
            obtain ⟨hc4, h⟩ := h
            refine bw_cVi (As := [.int a0]) (st := []) (Q' := (fun v w1 => (vX7_numberIn w a0) = v ∧ w = w1)) cv_BentWords_232 rfl rfl (fs_X7_numberIn (d := d + 0) (a0 := a0) hc4 ⟨rfl, rfl⟩) rfl rfl (Nat.le_of_ble_eq_true rfl) dX11_hole_79 (fun v w1 hv => ?_)
            obtain ⟨rfl, rfl⟩ := hv
            exact bw_ireturn dX11_hole_82 rfl rfl ⟨_, rfl, h⟩
          | j + 3, hj, _ => exact absurd hj (by simp)
        · replace h := h.2.2.2 hx
          refine bw_iconst (v := (-1)) dX11_hole_83 (by decide) ?_
          exact bw_ireturn dX11_hole_84 rfl rfl ⟨_, rfl, h⟩
      · replace h := h.2 (of_decide_eq_true c)
        refine bw_iconst (v := (-1)) dX11_hole_25 (by decide) ?_
        exact bw_ireturn dX11_hole_26 rfl rfl ⟨_, rfl, h⟩
theorem wfX11_bare_14 {E : bw_E} {d : Nat} {w : bw_W} {Q : Int32 → bw_W → Prop} {l1 : Int32} {l2 : Int32} {l3 : Int32}  (h : ((8 ≤ l3 → Q l2 w) ∧ (¬ (8 ≤ l3) → (vp_in ((l1 * 8) + l3) 52) ∧
((¬ (gw_l w 32 (((l1 * 8) + l3).toNatClampNeg)) = 0 → bw_G E (d + 1) mX11_bare 14 [some (.ref 0), some (.int l1), some (.int l2), some (.int (l3 + 1))] [] w (bw_qi Q)) ∧ ((gw_l w 32 (((l1 * 8) + l3).toNatClampNeg)) = 0 → bw_G E (d + 1) mX11_bare 14 [some (.ref 0), some (.int l1), some (.int (l2 ||| ((1 : Int32) <<< (l3 &&& 31)))), some (.int (l3 + 1))] [] w (bw_qi Q)))))) : bw_G E (d + 1) mX11_bare 14 [some (.ref 0), some (.int l1), some (.int l2), some (.int l3)] [] w (bw_qi Q) := by
  refine bw_iload_n (i := 3) dX11_bare_14 rfl rfl ?_
  refine bw_bipush (v := 8) dX11_bare_15 (by decide) ?_
  refine bw_icmp_ge (tgt := 51) dX11_bare_17 (by decide) (fun c => ?_) (fun c => ?_)
  · replace h := h.1 (c)
    refine bw_iload_n (i := 2) dX11_bare_51 rfl rfl ?_
    exact bw_ireturn dX11_bare_52 rfl rfl ⟨_, rfl, h⟩
  · replace h := h.2 (c)
    refine bw_aload_n (i := 0) dX11_bare_20 rfl rfl ?_
    refine bw_getr (r := 31) fg_BentWords_58 rfl rfl dX11_bare_21 ?_
    refine bw_getr (r := 32) fg_BentWords_170 rfl rfl dX11_bare_24 ?_
    refine bw_iload_n (i := 1) dX11_bare_27 rfl rfl ?_
    refine bw_bipush (v := 8) dX11_bare_28 (by decide) ?_
    refine bw_imul dX11_bare_30 ?_
    refine bw_iload_n (i := 3) dX11_bare_31 rfl rfl ?_
    refine bw_iadd dX11_bare_32 ?_
    obtain ⟨hi1, h⟩ := h
    refine bw_laload rfl hi1 dX11_bare_33 ?_
    refine bw_lconst (v := 0) dX11_bare_34 rfl ?_
    refine bw_lcmp_ne (tgt := 45) dX11_bare_35 dX11_bare_36 (by decide) (fun c => ?_) (fun c => ?_)
    · replace h := h.1 (c)
      refine bw_iinc (i := 3) (x := l3) (v := (l3 + 1)) (L' := [some (.ref 0), some (.int l1), some (.int l2), some (.int (l3 + 1))]) dX11_bare_45 rfl rfl (Nat.le_of_ble_eq_true rfl) rfl ?_
      refine bw_goto (tgt := 14) dX11_bare_48 (by decide) ?_
      exact h
    · replace h := h.2 (c)
      refine bw_iload_n (i := 2) dX11_bare_39 rfl rfl ?_
      refine bw_iconst (v := 1) dX11_bare_40 (by decide) ?_
      refine bw_iload_n (i := 3) dX11_bare_41 rfl rfl ?_
      refine bw_ishl dX11_bare_42 ?_
      refine bw_ior dX11_bare_43 ?_
      refine bw_istore_n (i := 2) (L' := [some (.ref 0), some (.int l1), some (.int (l2 ||| ((1 : Int32) <<< (l3 &&& 31)))), some (.int l3)]) dX11_bare_44 rfl (Nat.le_of_ble_eq_true rfl) rfl ?_
      refine bw_iinc (i := 3) (x := l3) (v := (l3 + 1)) (L' := [some (.ref 0), some (.int l1), some (.int (l2 ||| ((1 : Int32) <<< (l3 &&& 31)))), some (.int (l3 + 1))]) dX11_bare_45 rfl rfl (Nat.le_of_ble_eq_true rfl) rfl ?_
      refine bw_goto (tgt := 14) dX11_bare_48 (by decide) ?_
      exact h
theorem wfX11_bare {E : bw_E} {d : Nat} {w : bw_W} {Q : Int32 → bw_W → Prop} {a0 : Int32}  (h : (((¬ (a0 < 0)) ∧ (¬ ((gw_i w 18 0) ≤ a0)) → bw_G E (d + 1) mX11_bare 14 [some (.ref 0), some (.int a0), some (.int 0), some (.int 0)] [] w (bw_qi Q)) ∧ (¬ ((¬ (a0 < 0)) ∧ (¬ ((gw_i w 18 0) ≤ a0))) → Q (-1) w))) : bw_ri E (d + 1) mX11_bare [.ref 0, .int a0] w Q := by
  refine bw_enter rfl (Nat.le_of_ble_eq_true rfl) ?_
  refine bw_aload_n (i := 0) dX11_bare_0 rfl rfl ?_
  refine bw_iload_n (i := 1) dX11_bare_1 rfl rfl ?_
  refine bw_cVb (As := [.int a0]) (st := []) (Q' := (fun v w1 => (decide ((¬ (a0 < 0)) ∧ (¬ ((gw_i w 18 0) ≤ a0)))) = v ∧ w = w1)) cv_BentWords_180 rfl rfl (fs_X11_hasNoun (d := d + 0) (a0 := a0)  ⟨rfl, rfl⟩) rfl rfl (Nat.le_of_ble_eq_true rfl) dX11_bare_2 (fun v w1 hv => ?_)
  obtain ⟨rfl, rfl⟩ := hv
  refine bw_ifb_ne (tgt := 10) dX11_bare_5 (by decide) (fun c => ?_) (fun c => ?_)
  · replace h := h.1 (of_decide_eq_true c)
    refine bw_iconst (v := 0) dX11_bare_10 (by decide) ?_
    refine bw_istore_n (i := 2) (L' := [some (.ref 0), some (.int a0), some (.int 0), none]) dX11_bare_11 rfl (Nat.le_of_ble_eq_true rfl) rfl ?_
    refine bw_iconst (v := 0) dX11_bare_12 (by decide) ?_
    refine bw_istore_n (i := 3) (L' := [some (.ref 0), some (.int a0), some (.int 0), some (.int 0)]) dX11_bare_13 rfl (Nat.le_of_ble_eq_true rfl) rfl ?_
    exact h
  · replace h := h.2 (of_decide_eq_false c)
    refine bw_iconst (v := (-1)) dX11_bare_8 (by decide) ?_
    exact bw_ireturn dX11_bare_9 rfl rfl ⟨_, rfl, h⟩
theorem wfX11_fillByGuess_21 {E : bw_E} {d : Nat} {w : bw_W} {Q : bw_W → Prop} {l1 : Int32} {l2 : Int32} {l3 : Int32} {l4 : Int32} {l5 : Int32}  (h : ((l5 < 0 → Q w) ∧ (¬ (l5 < 0) → ((((l1 >>> (l5 &&& 31)) &&& 1) = 0 → bw_G E (d + 1) mX11_fillByGuess 21 [some (.ref 0), some (.int l1), some (.int l2), some (.int l3), some (.int l4), some (.int (l5 + (-1))), none] [] w (bw_qv Q)) ∧ (¬ (((l1 >>> (l5 &&& 31)) &&& 1) = 0) → (¬ l3 = 0) ∧
(¬ l3 = 0) ∧
(vp_in (48 + l5) 52) ∧
bw_G E (d + 1) mX11_fillByGuess 21 [some (.ref 0), some (.int l1), some (.int l2), some (.int l3), some (.int (l4 / l3)), some (.int (l5 + (-1))), none] [] (sw_l w 32 ((48 + l5).toNatClampNeg) (((1 + (((l4 - l4 / l3 * l3) / 2) * 100)) + (1 + ((l4 - l4 / l3 * l3) - (l4 - l4 / l3 * l3) / 2 * 2))).toInt64)) (bw_qv Q)))))) : bw_G E (d + 1) mX11_fillByGuess 21 [some (.ref 0), some (.int l1), some (.int l2), some (.int l3), some (.int l4), some (.int l5), none] [] w (bw_qv Q) := by
  refine bw_iload dX11_fillByGuess_21 rfl ?_
  refine bw_if_lt (tgt := 79) dX11_fillByGuess_23 (by decide) (fun c => ?_) (fun c => ?_)
  · replace h := h.1 (c)
    exact bw_return dX11_fillByGuess_79 rfl ⟨rfl, h⟩
  · replace h := h.2 (c)
    refine bw_iload_n (i := 1) dX11_fillByGuess_26 rfl rfl ?_
    refine bw_iload dX11_fillByGuess_27 rfl ?_
    refine bw_ishr dX11_fillByGuess_29 ?_
    refine bw_iconst (v := 1) dX11_fillByGuess_30 (by decide) ?_
    refine bw_iand dX11_fillByGuess_31 ?_
    refine bw_if_eq (tgt := 73) dX11_fillByGuess_32 (by decide) (fun c => ?_) (fun c => ?_)
    · replace h := h.1 (c)
      refine bw_iinc (i := 5) (x := l5) (v := (l5 + (-1))) (L' := [some (.ref 0), some (.int l1), some (.int l2), some (.int l3), some (.int l4), some (.int (l5 + (-1))), none]) dX11_fillByGuess_73 rfl rfl (Nat.le_of_ble_eq_true rfl) rfl ?_
      refine bw_goto (tgt := 21) dX11_fillByGuess_76 (by decide) ?_
      exact h
    · replace h := h.2 (c)
      refine bw_iload dX11_fillByGuess_35 rfl ?_
      refine bw_iload_n (i := 3) dX11_fillByGuess_37 rfl rfl ?_
      obtain ⟨hz1, h⟩ := h
      refine bw_irem dX11_fillByGuess_38 hz1 ?_
      refine bw_istore (i := 6) (L' := [some (.ref 0), some (.int l1), some (.int l2), some (.int l3), some (.int l4), some (.int l5), some (.int (l4 - l4 / l3 * l3))]) dX11_fillByGuess_39 (Nat.le_of_ble_eq_true rfl) rfl ?_
      refine bw_iload dX11_fillByGuess_41 rfl ?_
      refine bw_iload_n (i := 3) dX11_fillByGuess_43 rfl rfl ?_
      obtain ⟨hz2, h⟩ := h
      refine bw_idiv dX11_fillByGuess_44 hz2 ?_
      refine bw_istore (i := 4) (L' := [some (.ref 0), some (.int l1), some (.int l2), some (.int l3), some (.int (l4 / l3)), some (.int l5), some (.int (l4 - l4 / l3 * l3))]) dX11_fillByGuess_45 (Nat.le_of_ble_eq_true rfl) rfl ?_
      refine bw_aload_n (i := 0) dX11_fillByGuess_47 rfl rfl ?_
      refine bw_getr (r := 31) fg_BentWords_58 rfl rfl dX11_fillByGuess_48 ?_
      refine bw_getr (r := 32) fg_BentWords_170 rfl rfl dX11_fillByGuess_51 ?_
      refine bw_bipush (v := 48) dX11_fillByGuess_54 (by decide) ?_
      refine bw_iload dX11_fillByGuess_56 rfl ?_
      refine bw_iadd dX11_fillByGuess_58 ?_
      refine bw_iload dX11_fillByGuess_59 rfl ?_
      refine bw_iconst (v := 2) dX11_fillByGuess_61 (by decide) ?_
      refine bw_idiv dX11_fillByGuess_62 (by decide) ?_
      refine bw_iconst (v := 1) dX11_fillByGuess_63 (by decide) ?_
      refine bw_iload dX11_fillByGuess_64 rfl ?_
      refine bw_iconst (v := 2) dX11_fillByGuess_66 (by decide) ?_
      refine bw_irem dX11_fillByGuess_67 (by decide) ?_
      refine bw_iadd dX11_fillByGuess_68 ?_
      refine bw_cSl (As := [.int ((l4 - l4 / l3 * l3) / 2), .int (1 + ((l4 - l4 / l3 * l3) - (l4 - l4 / l3 * l3) / 2 * 2))]) (st := [.int (48 + l5), .ref 32]) (Q' := (fun v w1 => (((1 + (((l4 - l4 / l3 * l3) / 2) * 100)) + (1 + ((l4 - l4 / l3 * l3) - (l4 - l4 / l3 * l3) / 2 * 2))).toInt64) = v ∧ w = w1)) cs_BentWords_314 (fs_X7_filling (d := d + 0) (a0 := ((l4 - l4 / l3 * l3) / 2)) (a1 := (1 + ((l4 - l4 / l3 * l3) - (l4 - l4 / l3 * l3) / 2 * 2)))  ⟨rfl, rfl⟩) rfl rfl (Nat.le_of_ble_eq_true rfl) dX11_fillByGuess_69 (fun v w1 hv => ?_)
      obtain ⟨rfl, rfl⟩ := hv
      obtain ⟨hi3, h⟩ := h
      refine bw_lastore rfl hi3 dX11_fillByGuess_72 ?_
      refine bw_iinc (i := 5) (x := l5) (v := (l5 + (-1))) (L' := [some (.ref 0), some (.int l1), some (.int l2), some (.int l3), some (.int (l4 / l3)), some (.int (l5 + (-1))), some (.int (l4 - l4 / l3 * l3))]) dX11_fillByGuess_73 rfl rfl (Nat.le_of_ble_eq_true rfl) rfl ?_
      refine bw_goto (tgt := 21) dX11_fillByGuess_76 (by decide) ?_
      exact bw_wk [6] rfl h
theorem wfX11_fillByGuess {E : bw_E} {d : Nat} {w : bw_W} {Q : bw_W → Prop} {a0 : Int32} {a1 : Int32}  (h : ((¬ (2 * (gw_i w 18 0)) = 0 → bw_G E (d + 1) mX11_fillByGuess 21 [some (.ref 0), some (.int a0), some (.int a1), some (.int (2 * (gw_i w 18 0))), some (.int a1), some (.int 2), none] [] w (bw_qv Q)) ∧ ((2 * (gw_i w 18 0)) = 0 → Q w))) : bw_rv E (d + 1) mX11_fillByGuess [.ref 0, .int a0, .int a1] w Q := by
  refine bw_enter rfl (Nat.le_of_ble_eq_true rfl) ?_
  refine bw_iconst (v := 2) dX11_fillByGuess_0 (by decide) ?_
  refine bw_aload_n (i := 0) dX11_fillByGuess_1 rfl rfl ?_
  refine bw_getr (r := 18) fg_BentWords_44 rfl rfl dX11_fillByGuess_2 ?_
  refine bw_geti fg_BentWords_153 rfl dX11_fillByGuess_5 ?_
  refine bw_imul dX11_fillByGuess_8 ?_
  refine bw_istore_n (i := 3) (L' := [some (.ref 0), some (.int a0), some (.int a1), some (.int (2 * (gw_i w 18 0))), none, none, none]) dX11_fillByGuess_9 rfl (Nat.le_of_ble_eq_true rfl) rfl ?_
  refine bw_iload_n (i := 3) dX11_fillByGuess_10 rfl rfl ?_
  refine bw_if_ne (tgt := 15) dX11_fillByGuess_11 (by decide) (fun c => ?_) (fun c => ?_)
  · replace h := h.1 (c)
    refine bw_iload_n (i := 2) dX11_fillByGuess_15 rfl rfl ?_
    refine bw_istore (i := 4) (L' := [some (.ref 0), some (.int a0), some (.int a1), some (.int (2 * (gw_i w 18 0))), some (.int a1), none, none]) dX11_fillByGuess_16 (Nat.le_of_ble_eq_true rfl) rfl ?_
    refine bw_iconst (v := 2) dX11_fillByGuess_18 (by decide) ?_
    refine bw_istore (i := 5) (L' := [some (.ref 0), some (.int a0), some (.int a1), some (.int (2 * (gw_i w 18 0))), some (.int a1), some (.int 2), none]) dX11_fillByGuess_19 (Nat.le_of_ble_eq_true rfl) rfl ?_
    exact h
  · replace h := h.2 (c)
    exact bw_return dX11_fillByGuess_14 rfl ⟨rfl, h⟩
theorem wfX11_guessedIn {E : bw_E} {d : Nat} {w : bw_W} {Q : Int32 → bw_W → Prop} {a0 : Int32} {a1 : Int32}  (h : ((¬ ((a0 >>> ((a1 - a1 / 3 * 3) &&& 31)) &&& 1) = 0 → ((3 ≤ a1 → (((vp_in (48 + (a1 - a1 / 3 * 3)) 52))) ∧
Q (vX7_countIn w (a1 - a1 / 3 * 3)) w) ∧ (¬ (3 ≤ a1) → (((vp_in (48 + (a1 - a1 / 3 * 3)) 52))) ∧
Q (vX7_nounIn w (a1 - a1 / 3 * 3)) w))) ∧ (((a0 >>> ((a1 - a1 / 3 * 3) &&& 31)) &&& 1) = 0 → Q (-1) w))) : bw_ri E (d + 1) mX11_guessedIn [.ref 0, .int a0, .int a1] w Q := by
  refine bw_enter rfl (Nat.le_of_ble_eq_true rfl) ?_
  refine bw_iload_n (i := 2) dX11_guessedIn_0 rfl rfl ?_
  refine bw_iconst (v := 3) dX11_guessedIn_1 (by decide) ?_
  refine bw_irem dX11_guessedIn_2 (by decide) ?_
  refine bw_istore_n (i := 3) (L' := [some (.ref 0), some (.int a0), some (.int a1), some (.int (a1 - a1 / 3 * 3))]) dX11_guessedIn_3 rfl (Nat.le_of_ble_eq_true rfl) rfl ?_
  refine bw_iload_n (i := 1) dX11_guessedIn_4 rfl rfl ?_
  refine bw_iload_n (i := 3) dX11_guessedIn_5 rfl rfl ?_
  refine bw_ishr dX11_guessedIn_6 ?_
  refine bw_iconst (v := 1) dX11_guessedIn_7 (by decide) ?_
  refine bw_iand dX11_guessedIn_8 ?_
  refine bw_if_ne (tgt := 14) dX11_guessedIn_9 (by decide) (fun c => ?_) (fun c => ?_)
  · replace h := h.1 (c)
    refine bw_iload_n (i := 2) dX11_guessedIn_14 rfl rfl ?_
    refine bw_iconst (v := 3) dX11_guessedIn_15 (by decide) ?_
    refine bw_icmp_ge (tgt := 30) dX11_guessedIn_16 (by decide) (fun c => ?_) (fun c => ?_)
    · replace h := h.1 (c)
      refine bw_aload_n (i := 0) dX11_guessedIn_30 rfl rfl ?_
      refine bw_getr (r := 31) fg_BentWords_58 rfl rfl dX11_guessedIn_31 ?_
      refine bw_iload_n (i := 3) dX11_guessedIn_34 rfl rfl ?_
      obtain ⟨hc1, h⟩ := h
      refine bw_cVi (As := [.int (a1 - a1 / 3 * 3)]) (st := []) (Q' := (fun v w1 => (vX7_countIn w (a1 - a1 / 3 * 3)) = v ∧ w = w1)) cv_BentWords_229 rfl rfl (fs_X7_countIn (d := d + 0) (a0 := (a1 - a1 / 3 * 3)) hc1 ⟨rfl, rfl⟩) rfl rfl (Nat.le_of_ble_eq_true rfl) dX11_guessedIn_35 (fun v w1 hv => ?_)
      obtain ⟨rfl, rfl⟩ := hv
      exact bw_ireturn dX11_guessedIn_38 rfl rfl ⟨_, rfl, h⟩
    · replace h := h.2 (c)
      refine bw_aload_n (i := 0) dX11_guessedIn_19 rfl rfl ?_
      refine bw_getr (r := 31) fg_BentWords_58 rfl rfl dX11_guessedIn_20 ?_
      refine bw_iload_n (i := 3) dX11_guessedIn_23 rfl rfl ?_
      obtain ⟨hc2, h⟩ := h
      refine bw_cVi (As := [.int (a1 - a1 / 3 * 3)]) (st := []) (Q' := (fun v w1 => (vX7_nounIn w (a1 - a1 / 3 * 3)) = v ∧ w = w1)) cv_BentWords_226 rfl rfl (fs_X7_nounIn (d := d + 0) (a0 := (a1 - a1 / 3 * 3)) hc2 ⟨rfl, rfl⟩) rfl rfl (Nat.le_of_ble_eq_true rfl) dX11_guessedIn_24 (fun v w1 hv => ?_)
      obtain ⟨rfl, rfl⟩ := hv
      refine bw_goto (tgt := 38) dX11_guessedIn_27 (by decide) ?_
      exact bw_ireturn dX11_guessedIn_38 rfl rfl ⟨_, rfl, h⟩
  · replace h := h.2 (c)
    refine bw_iconst (v := (-1)) dX11_guessedIn_12 (by decide) ?_
    exact bw_ireturn dX11_guessedIn_13 rfl rfl ⟨_, rfl, h⟩
def vX11_guessedIn (w : bw_W) (a0 : Int32) (a1 : Int32) : Int32 := (if ¬ ((a0 >>> ((a1 - a1 / 3 * 3) &&& 31)) &&& 1) = 0 then (if 3 ≤ a1 then (vX7_countIn w (a1 - a1 / 3 * 3)) else (vX7_nounIn w (a1 - a1 / 3 * 3))) else (-1))
theorem fs_X11_guessedIn {E : bw_E} {d : Nat} {w : bw_W} {Q : Int32 → bw_W → Prop} {a0 : Int32} {a1 : Int32}  (hc0 : (¬ ((a0 >>> ((a1 - a1 / 3 * 3) &&& 31)) &&& 1) = 0) → (3 ≤ a1) → (((vp_in (48 + (a1 - a1 / 3 * 3)) 52)))) (hc1 : (¬ ((a0 >>> ((a1 - a1 / 3 * 3) &&& 31)) &&& 1) = 0) → (¬ (3 ≤ a1)) → (((vp_in (48 + (a1 - a1 / 3 * 3)) 52)))) (h : Q (vX11_guessedIn w a0 a1) w) : bw_ri E (d + 1) mX11_guessedIn [.ref 0, .int a0, .int a1] w Q := by
  refine wfX11_guessedIn  ?_
  refine ⟨fun c0 => ?_, fun c0 => ?_⟩
  · refine ⟨fun c1 => ?_, fun c1 => ?_⟩
    · refine ⟨hc0 c0 c1, ?_⟩
      (try simp only [vX11_guessedIn, c0, c1, if_true, if_false, ite_true, ite_false, decide_true, decide_false, true_and, and_true, false_and, and_false, not_true_eq_false, not_false_eq_true, true_or, or_true, false_or, or_false, or_self, and_self, Classical.not_not] at h) <;> exact h
    · refine ⟨hc1 c0 c1, ?_⟩
      (try simp only [vX11_guessedIn, c0, c1, if_true, if_false, ite_true, ite_false, decide_true, decide_false, true_and, and_true, false_and, and_false, not_true_eq_false, not_false_eq_true, true_or, or_true, false_or, or_false, or_self, and_self, Classical.not_not] at h) <;> exact h
  · (try simp only [vX11_guessedIn, c0, if_true, if_false, ite_true, ite_false, decide_true, decide_false, true_and, and_true, false_and, and_false, not_true_eq_false, not_false_eq_true, true_or, or_true, false_or, or_false, or_self, and_self, Classical.not_not] at h) <;> exact h
theorem wfX11_undo {E : bw_E} {d : Nat} {w : bw_W} {Q : Int32 → bw_W → Prop}   (h : ((¬ (gw_i w 37 4) = 0 → (∃ Q1 : bw_W → Prop, bw_rv E (d + 0) mX2_undoLatest [.ref 37, .ref 31] w Q1 ∧ ∀ w3, Q1 w3 →
Q (gw_i w3 37 4) w3)) ∧ ((gw_i w 37 4) = 0 → Q (-1) w))) : bw_ri E (d + 1) mX11_undo [.ref 0] w Q := by
  refine bw_enter rfl (Nat.le_of_ble_eq_true rfl) ?_
  refine bw_aload_n (i := 0) dX11_undo_0 rfl rfl ?_
  refine bw_getr (r := 37) fg_BentWords_77 rfl rfl dX11_undo_1 ?_
  refine bw_geti fg_BentWords_336 rfl dX11_undo_4 ?_
  refine bw_if_ne (tgt := 12) dX11_undo_7 (by decide) (fun c => ?_) (fun c => ?_)
  · replace h := h.1 (c)
    refine bw_aload_n (i := 0) dX11_undo_12 rfl rfl ?_
    refine bw_getr (r := 37) fg_BentWords_77 rfl rfl dX11_undo_13 ?_
    refine bw_aload_n (i := 0) dX11_undo_16 rfl rfl ?_
    refine bw_getr (r := 31) fg_BentWords_58 rfl rfl dX11_undo_17 ?_
    obtain ⟨Q1, hr, h⟩ := h
    refine bw_cVv (As := [.ref 31]) (st := []) cv_BentWords_339 rfl rfl hr rfl rfl (Nat.le_of_ble_eq_true rfl) dX11_undo_20 (fun w3 hv => ?_)
    replace h := h w3 hv
    clear hr
    refine bw_aload_n (i := 0) dX11_undo_23 rfl rfl ?_
    refine bw_getr (r := 37) fg_BentWords_77 rfl rfl dX11_undo_24 ?_
    refine bw_geti fg_BentWords_336 rfl dX11_undo_27 ?_
    exact bw_ireturn dX11_undo_30 rfl rfl ⟨_, rfl, h⟩
  · replace h := h.2 (c)
    refine bw_iconst (v := (-1)) dX11_undo_10 (by decide) ?_
    exact bw_ireturn dX11_undo_11 rfl rfl ⟨_, rfl, h⟩
theorem wfX11_boundsRefusal {E : bw_E} {d : Nat} {w : bw_W} {Q : Int32 → bw_W → Prop} {sp : Nat} (h_sp : bw_sh sp = (0, 8, 5)) (h : (((gw_i w sp 0) = 0 → ((¬ ((¬ ((gw_i w sp 1) < 0)) ∧ (¬ (3 ≤ (gw_i w sp 1)))) → Q 0 w) ∧ ((¬ ((gw_i w sp 1) < 0)) ∧ (¬ (3 ≤ (gw_i w sp 1))) → (((¬ ((gw_i w sp 2) < 0)) ∧ (¬ ((gw_i w 18 0) ≤ (gw_i w sp 2))) → (((gw_i w sp 3) < 0 → Q 1 w) ∧ (¬ ((gw_i w sp 3) < 0) → (((gw_i w sp 3) ≤ 99 → Q (-1) w) ∧ (¬ ((gw_i w sp 3) ≤ 99) → Q 1 w))))) ∧ (¬ ((¬ ((gw_i w sp 2) < 0)) ∧ (¬ ((gw_i w 18 0) ≤ (gw_i w sp 2)))) → Q 0 w))))) ∧ ((gw_i w sp 0) = 1 → ((¬ ((¬ ((gw_i w sp 1) < 0)) ∧ (¬ (3 ≤ (gw_i w sp 1)))) → Q 0 w) ∧ ((¬ ((gw_i w sp 1) < 0)) ∧ (¬ (3 ≤ (gw_i w sp 1))) → Q (-1) w))) ∧ ((gw_i w sp 0) = 2 → (((gw_i w sp 1) < 0 → Q 1 w) ∧ (¬ ((gw_i w sp 1) < 0) → (((gw_i w sp 1) ≤ 1 → Q (-1) w) ∧ (¬ ((gw_i w sp 1) ≤ 1) → Q 1 w))))) ∧ ((gw_i w sp 0).toInt < 0 ∨ 2 < (gw_i w sp 0).toInt → (((¬ ((gw_i w sp 1) < 0)) ∧ (¬ ((gw_i w 18 0) ≤ (gw_i w sp 1))) → ((¬ (gw_i w sp 0) = 3 → ((¬ ((¬ ((gw_i w sp 2) < 0)) ∧ ((¬ (4 ≤ (gw_i w sp 2))) ∧ ((¬ ((gw_i w sp 3) < 0)) ∧ (¬ (2 ≤ (gw_i w sp 3)))))) → Q 1 w) ∧ ((¬ ((gw_i w sp 2) < 0)) ∧ ((¬ (4 ≤ (gw_i w sp 2))) ∧ ((¬ ((gw_i w sp 3) < 0)) ∧ (¬ (2 ≤ (gw_i w sp 3))))) → Q (-1) w))) ∧ ((gw_i w sp 0) = 3 → ((¬ (gw_l w sp 4) = 0 → ((¬ ((¬ ((gw_i w sp 2) < 0)) ∧ ((¬ (4 ≤ (gw_i w sp 2))) ∧ ((¬ ((gw_i w sp 3) < 0)) ∧ (¬ (2 ≤ (gw_i w sp 3)))))) → Q 1 w) ∧ ((¬ ((gw_i w sp 2) < 0)) ∧ ((¬ (4 ≤ (gw_i w sp 2))) ∧ ((¬ ((gw_i w sp 3) < 0)) ∧ (¬ (2 ≤ (gw_i w sp 3))))) → Q (-1) w))) ∧ ((gw_l w sp 4) = 0 → ((¬ ((¬ ((gw_i w sp 2) < 0)) ∧ ((¬ (4 ≤ (gw_i w sp 2))) ∧ ((¬ ((gw_i w sp 3) < 0)) ∧ (¬ (2 ≤ (gw_i w sp 3)))))) → Q 1 w) ∧ ((¬ ((gw_i w sp 2) < 0)) ∧ ((¬ (4 ≤ (gw_i w sp 2))) ∧ ((¬ ((gw_i w sp 3) < 0)) ∧ (¬ (2 ≤ (gw_i w sp 3))))) → Q 1 w))))))) ∧ (¬ ((¬ ((gw_i w sp 1) < 0)) ∧ (¬ ((gw_i w 18 0) ≤ (gw_i w sp 1)))) → Q 0 w))))) : bw_ri E (d + 1) mX11_boundsRefusal [.ref 0, .ref sp] w Q := by
  refine bw_enter rfl (Nat.le_of_ble_eq_true rfl) ?_
  refine bw_aload_n (i := 1) dX11_boundsRefusal_0 rfl rfl ?_
  refine bw_geti fg_BentWords_370 h_sp dX11_boundsRefusal_1 ?_
  refine bw_tabsw dX11_boundsRefusal_4 [32, 77, 93] 114 (by decide) rfl rfl (fun j hj hx => ?_) (fun hx => ?_)
  · match j, hj, hx with
    | 0, _, hx =>
      replace h := h.1 (bw_ti hx (by decide))
      refine bw_aload_n (i := 1) dX11_boundsRefusal_32 rfl rfl ?_
      refine bw_geti fg_BentWords_373 h_sp dX11_boundsRefusal_33 ?_
      refine bw_cSb (As := [.int (gw_i w sp 1)]) (st := []) (Q' := (fun v w1 => (decide ((¬ ((gw_i w sp 1) < 0)) ∧ (¬ (3 ≤ (gw_i w sp 1))))) = v ∧ w = w1)) cs_BentWords_220 (fs_X11_isHole (d := d + 0) (a0 := (gw_i w sp 1))  ⟨rfl, rfl⟩) rfl rfl (Nat.le_of_ble_eq_true rfl) dX11_boundsRefusal_36 (fun v w1 hv => ?_)
      obtain ⟨rfl, rfl⟩ := hv
      refine bw_ifb_eq (tgt := 53) dX11_boundsRefusal_39 (by decide) (fun c => ?_) (fun c => ?_)
      · replace h := h.1 (of_decide_eq_false c)
        refine bw_iconst (v := 0) dX11_boundsRefusal_53 (by decide) ?_
        exact bw_ireturn dX11_boundsRefusal_54 rfl rfl ⟨_, rfl, h⟩
      · replace h := h.2 (of_decide_eq_true c)
        refine bw_aload_n (i := 0) dX11_boundsRefusal_42 rfl rfl ?_
        refine bw_aload_n (i := 1) dX11_boundsRefusal_43 rfl rfl ?_
        refine bw_geti fg_BentWords_388 h_sp dX11_boundsRefusal_44 ?_
        refine bw_cVb (As := [.int (gw_i w sp 2)]) (st := []) (Q' := (fun v w1 => (decide ((¬ ((gw_i w sp 2) < 0)) ∧ (¬ ((gw_i w 18 0) ≤ (gw_i w sp 2))))) = v ∧ w = w1)) cv_BentWords_180 rfl rfl (fs_X11_hasNoun (d := d + 0) (a0 := (gw_i w sp 2))  ⟨rfl, rfl⟩) rfl rfl (Nat.le_of_ble_eq_true rfl) dX11_boundsRefusal_47 (fun v w1 hv => ?_)
        obtain ⟨rfl, rfl⟩ := hv
        refine bw_ifb_ne (tgt := 55) dX11_boundsRefusal_50 (by decide) (fun c => ?_) (fun c => ?_)
        · replace h := h.1 (of_decide_eq_true c)
          refine bw_aload_n (i := 1) dX11_boundsRefusal_55 rfl rfl ?_
          refine bw_geti fg_BentWords_391 h_sp dX11_boundsRefusal_56 ?_
          refine bw_if_lt (tgt := 71) dX11_boundsRefusal_59 (by decide) (fun c => ?_) (fun c => ?_)
          · replace h := h.1 (c)
            refine bw_iconst (v := 1) dX11_boundsRefusal_71 (by decide) ?_
            refine bw_goto (tgt := 76) dX11_boundsRefusal_72 (by decide) ?_
            exact bw_ireturn dX11_boundsRefusal_76 rfl rfl ⟨_, rfl, h⟩
          · replace h := h.2 (c)
            refine bw_aload_n (i := 1) dX11_boundsRefusal_62 rfl rfl ?_
            refine bw_geti fg_BentWords_391 h_sp dX11_boundsRefusal_63 ?_
            refine bw_bipush (v := 99) dX11_boundsRefusal_66 (by decide) ?_
            refine bw_icmp_le (tgt := 75) dX11_boundsRefusal_68 (by decide) (fun c => ?_) (fun c => ?_)
            · replace h := h.1 (c)
              refine bw_iconst (v := (-1)) dX11_boundsRefusal_75 (by decide) ?_
              exact bw_ireturn dX11_boundsRefusal_76 rfl rfl ⟨_, rfl, h⟩
            · replace h := h.2 (c)
              refine bw_iconst (v := 1) dX11_boundsRefusal_71 (by decide) ?_
              refine bw_goto (tgt := 76) dX11_boundsRefusal_72 (by decide) ?_
              exact bw_ireturn dX11_boundsRefusal_76 rfl rfl ⟨_, rfl, h⟩
        · replace h := h.2 (of_decide_eq_false c)
          refine bw_iconst (v := 0) dX11_boundsRefusal_53 (by decide) ?_
          exact bw_ireturn dX11_boundsRefusal_54 rfl rfl ⟨_, rfl, h⟩
    | 1, _, hx =>
      replace h := h.2.1 (bw_ti hx (by decide))
      refine bw_aload_n (i := 1) dX11_boundsRefusal_77 rfl rfl ?_
      refine bw_geti fg_BentWords_373 h_sp dX11_boundsRefusal_78 ?_
      refine bw_cSb (As := [.int (gw_i w sp 1)]) (st := []) (Q' := (fun v w1 => (decide ((¬ ((gw_i w sp 1) < 0)) ∧ (¬ (3 ≤ (gw_i w sp 1))))) = v ∧ w = w1)) cs_BentWords_220 (fs_X11_isHole (d := d + 0) (a0 := (gw_i w sp 1))  ⟨rfl, rfl⟩) rfl rfl (Nat.le_of_ble_eq_true rfl) dX11_boundsRefusal_81 (fun v w1 hv => ?_)
      obtain ⟨rfl, rfl⟩ := hv
      refine bw_ifb_eq (tgt := 91) dX11_boundsRefusal_84 (by decide) (fun c => ?_) (fun c => ?_)
      · replace h := h.1 (of_decide_eq_false c)
        refine bw_iconst (v := 0) dX11_boundsRefusal_91 (by decide) ?_
        exact bw_ireturn dX11_boundsRefusal_92 rfl rfl ⟨_, rfl, h⟩
      · replace h := h.2 (of_decide_eq_true c)
        refine bw_iconst (v := (-1)) dX11_boundsRefusal_87 (by decide) ?_
        refine bw_goto (tgt := 92) dX11_boundsRefusal_88 (by decide) ?_
        exact bw_ireturn dX11_boundsRefusal_92 rfl rfl ⟨_, rfl, h⟩
    | 2, _, hx =>
      replace h := h.2.2.1 (bw_ti hx (by decide))
      refine bw_aload_n (i := 1) dX11_boundsRefusal_93 rfl rfl ?_
      refine bw_geti fg_BentWords_373 h_sp dX11_boundsRefusal_94 ?_
      refine bw_if_lt (tgt := 108) dX11_boundsRefusal_97 (by decide) (fun c => ?_) (fun c => ?_)
      · replace h := h.1 (c)
        refine bw_iconst (v := 1) dX11_boundsRefusal_108 (by decide) ?_
        refine bw_goto (tgt := 113) dX11_boundsRefusal_109 (by decide) ?_
        exact bw_ireturn dX11_boundsRefusal_113 rfl rfl ⟨_, rfl, h⟩
      · replace h := h.2 (c)
        refine bw_aload_n (i := 1) dX11_boundsRefusal_100 rfl rfl ?_
        refine bw_geti fg_BentWords_373 h_sp dX11_boundsRefusal_101 ?_
        refine bw_iconst (v := 1) dX11_boundsRefusal_104 (by decide) ?_
        refine bw_icmp_le (tgt := 112) dX11_boundsRefusal_105 (by decide) (fun c => ?_) (fun c => ?_)
        · replace h := h.1 (c)
          refine bw_iconst (v := (-1)) dX11_boundsRefusal_112 (by decide) ?_
          exact bw_ireturn dX11_boundsRefusal_113 rfl rfl ⟨_, rfl, h⟩
        · replace h := h.2 (c)
          refine bw_iconst (v := 1) dX11_boundsRefusal_108 (by decide) ?_
          refine bw_goto (tgt := 113) dX11_boundsRefusal_109 (by decide) ?_
          exact bw_ireturn dX11_boundsRefusal_113 rfl rfl ⟨_, rfl, h⟩
    | j + 3, hj, _ => exact absurd hj (by simp)
  · replace h := h.2.2.2 hx
    refine bw_aload_n (i := 0) dX11_boundsRefusal_114 rfl rfl ?_
    refine bw_aload_n (i := 1) dX11_boundsRefusal_115 rfl rfl ?_
    refine bw_geti fg_BentWords_373 h_sp dX11_boundsRefusal_116 ?_
    refine bw_cVb (As := [.int (gw_i w sp 1)]) (st := []) (Q' := (fun v w1 => (decide ((¬ ((gw_i w sp 1) < 0)) ∧ (¬ ((gw_i w 18 0) ≤ (gw_i w sp 1))))) = v ∧ w = w1)) cv_BentWords_180 rfl rfl (fs_X11_hasNoun (d := d + 0) (a0 := (gw_i w sp 1))  ⟨rfl, rfl⟩) rfl rfl (Nat.le_of_ble_eq_true rfl) dX11_boundsRefusal_119 (fun v w1 hv => ?_)
    obtain ⟨rfl, rfl⟩ := hv
    refine bw_ifb_ne (tgt := 127) dX11_boundsRefusal_122 (by decide) (fun c => ?_) (fun c => ?_)
    · replace h := h.1 (of_decide_eq_true c)
      refine bw_aload_n (i := 1) dX11_boundsRefusal_127 rfl rfl ?_
      refine bw_geti fg_BentWords_370 h_sp dX11_boundsRefusal_128 ?_
      refine bw_iconst (v := 3) dX11_boundsRefusal_131 (by decide) ?_
      refine bw_icmp_ne (tgt := 148) dX11_boundsRefusal_132 (by decide) (fun c => ?_) (fun c => ?_)
      · replace h := h.1 (c)
        refine bw_iconst (v := 0) dX11_boundsRefusal_148 (by decide) ?_
        refine bw_istore_n (i := 2) (L' := [some (.ref 0), some (.ref sp), some (.int 0)]) dX11_boundsRefusal_149 rfl (Nat.le_of_ble_eq_true rfl) rfl ?_
        refine bw_aload_n (i := 1) dX11_boundsRefusal_150 rfl rfl ?_
        refine bw_geti fg_BentWords_388 h_sp dX11_boundsRefusal_151 ?_
        refine bw_aload_n (i := 1) dX11_boundsRefusal_154 rfl rfl ?_
        refine bw_geti fg_BentWords_391 h_sp dX11_boundsRefusal_155 ?_
        refine bw_cSb (As := [.int (gw_i w sp 2), .int (gw_i w sp 3)]) (st := []) (Q' := (fun v w1 => (decide ((¬ ((gw_i w sp 2) < 0)) ∧ ((¬ (4 ≤ (gw_i w sp 2))) ∧ ((¬ ((gw_i w sp 3) < 0)) ∧ (¬ (2 ≤ (gw_i w sp 3))))))) = v ∧ w = w1)) cs_BentWords_200 (fs_X11_isSlot (d := d + 0) (a0 := (gw_i w sp 2)) (a1 := (gw_i w sp 3))  ⟨rfl, rfl⟩) rfl rfl (Nat.le_of_ble_eq_true rfl) dX11_boundsRefusal_158 (fun v w1 hv => ?_)
        obtain ⟨rfl, rfl⟩ := hv
        refine bw_ifb_eq (tgt := 168) dX11_boundsRefusal_161 (by decide) (fun c => ?_) (fun c => ?_)
        · replace h := h.1 (of_decide_eq_false c)
          refine bw_iconst (v := 1) dX11_boundsRefusal_168 (by decide) ?_
          refine bw_goto (tgt := 173) dX11_boundsRefusal_169 (by decide) ?_
          exact bw_ireturn dX11_boundsRefusal_173 rfl rfl ⟨_, rfl, h⟩
        · replace h := h.2 (of_decide_eq_true c)
          refine bw_iload_n (i := 2) dX11_boundsRefusal_164 rfl rfl ?_
          refine bw_if_eq (tgt := 172) dX11_boundsRefusal_165 (by decide) (fun _ => ?_) (fun c => absurd c (by decide))
          refine bw_iconst (v := (-1)) dX11_boundsRefusal_172 (by decide) ?_
          exact bw_ireturn dX11_boundsRefusal_173 rfl rfl ⟨_, rfl, h⟩
      · replace h := h.2 (c)
        refine bw_aload_n (i := 1) dX11_boundsRefusal_135 rfl rfl ?_
        refine bw_getl fg_BentWords_394 h_sp dX11_boundsRefusal_136 ?_
        refine bw_lconst (v := 0) dX11_boundsRefusal_139 rfl ?_
        refine bw_lcmp_ne (tgt := 148) dX11_boundsRefusal_140 dX11_boundsRefusal_141 (by decide) (fun c => ?_) (fun c => ?_)
        · replace h := h.1 (c)
          refine bw_iconst (v := 0) dX11_boundsRefusal_148 (by decide) ?_
          refine bw_istore_n (i := 2) (L' := [some (.ref 0), some (.ref sp), some (.int 0)]) dX11_boundsRefusal_149 rfl (Nat.le_of_ble_eq_true rfl) rfl ?_
          refine bw_aload_n (i := 1) dX11_boundsRefusal_150 rfl rfl ?_
          refine bw_geti fg_BentWords_388 h_sp dX11_boundsRefusal_151 ?_
          refine bw_aload_n (i := 1) dX11_boundsRefusal_154 rfl rfl ?_
          refine bw_geti fg_BentWords_391 h_sp dX11_boundsRefusal_155 ?_
          refine bw_cSb (As := [.int (gw_i w sp 2), .int (gw_i w sp 3)]) (st := []) (Q' := (fun v w1 => (decide ((¬ ((gw_i w sp 2) < 0)) ∧ ((¬ (4 ≤ (gw_i w sp 2))) ∧ ((¬ ((gw_i w sp 3) < 0)) ∧ (¬ (2 ≤ (gw_i w sp 3))))))) = v ∧ w = w1)) cs_BentWords_200 (fs_X11_isSlot (d := d + 0) (a0 := (gw_i w sp 2)) (a1 := (gw_i w sp 3))  ⟨rfl, rfl⟩) rfl rfl (Nat.le_of_ble_eq_true rfl) dX11_boundsRefusal_158 (fun v w1 hv => ?_)
          obtain ⟨rfl, rfl⟩ := hv
          refine bw_ifb_eq (tgt := 168) dX11_boundsRefusal_161 (by decide) (fun c => ?_) (fun c => ?_)
          · replace h := h.1 (of_decide_eq_false c)
            refine bw_iconst (v := 1) dX11_boundsRefusal_168 (by decide) ?_
            refine bw_goto (tgt := 173) dX11_boundsRefusal_169 (by decide) ?_
            exact bw_ireturn dX11_boundsRefusal_173 rfl rfl ⟨_, rfl, h⟩
          · replace h := h.2 (of_decide_eq_true c)
            refine bw_iload_n (i := 2) dX11_boundsRefusal_164 rfl rfl ?_
            refine bw_if_eq (tgt := 172) dX11_boundsRefusal_165 (by decide) (fun _ => ?_) (fun c => absurd c (by decide))
            refine bw_iconst (v := (-1)) dX11_boundsRefusal_172 (by decide) ?_
            exact bw_ireturn dX11_boundsRefusal_173 rfl rfl ⟨_, rfl, h⟩
        · replace h := h.2 (c)
          refine bw_iconst (v := 1) dX11_boundsRefusal_144 (by decide) ?_
          refine bw_goto (tgt := 149) dX11_boundsRefusal_145 (by decide) ?_
          refine bw_istore_n (i := 2) (L' := [some (.ref 0), some (.ref sp), some (.int 1)]) dX11_boundsRefusal_149 rfl (Nat.le_of_ble_eq_true rfl) rfl ?_
          refine bw_aload_n (i := 1) dX11_boundsRefusal_150 rfl rfl ?_
          refine bw_geti fg_BentWords_388 h_sp dX11_boundsRefusal_151 ?_
          refine bw_aload_n (i := 1) dX11_boundsRefusal_154 rfl rfl ?_
          refine bw_geti fg_BentWords_391 h_sp dX11_boundsRefusal_155 ?_
          refine bw_cSb (As := [.int (gw_i w sp 2), .int (gw_i w sp 3)]) (st := []) (Q' := (fun v w1 => (decide ((¬ ((gw_i w sp 2) < 0)) ∧ ((¬ (4 ≤ (gw_i w sp 2))) ∧ ((¬ ((gw_i w sp 3) < 0)) ∧ (¬ (2 ≤ (gw_i w sp 3))))))) = v ∧ w = w1)) cs_BentWords_200 (fs_X11_isSlot (d := d + 0) (a0 := (gw_i w sp 2)) (a1 := (gw_i w sp 3))  ⟨rfl, rfl⟩) rfl rfl (Nat.le_of_ble_eq_true rfl) dX11_boundsRefusal_158 (fun v w1 hv => ?_)
          obtain ⟨rfl, rfl⟩ := hv
          refine bw_ifb_eq (tgt := 168) dX11_boundsRefusal_161 (by decide) (fun c => ?_) (fun c => ?_)
          · replace h := h.1 (of_decide_eq_false c)
            refine bw_iconst (v := 1) dX11_boundsRefusal_168 (by decide) ?_
            refine bw_goto (tgt := 173) dX11_boundsRefusal_169 (by decide) ?_
            exact bw_ireturn dX11_boundsRefusal_173 rfl rfl ⟨_, rfl, h⟩
          · replace h := h.2 (of_decide_eq_true c)
            refine bw_iload_n (i := 2) dX11_boundsRefusal_164 rfl rfl ?_
            refine bw_if_eq (tgt := 172) dX11_boundsRefusal_165 (by decide) (fun c => absurd c (by decide)) (fun _ => ?_)
            refine bw_iconst (v := 1) dX11_boundsRefusal_168 (by decide) ?_
            refine bw_goto (tgt := 173) dX11_boundsRefusal_169 (by decide) ?_
            exact bw_ireturn dX11_boundsRefusal_173 rfl rfl ⟨_, rfl, h⟩
    · replace h := h.2 (of_decide_eq_false c)
      refine bw_iconst (v := 0) dX11_boundsRefusal_125 (by decide) ?_
      exact bw_ireturn dX11_boundsRefusal_126 rfl rfl ⟨_, rfl, h⟩
theorem wfX11_filledHoles_4 {E : bw_E} {d : Nat} {w : bw_W} {Q : Int32 → bw_W → Prop} {l1 : Int32} {l2 : Int32}  (h : ((3 ≤ l2 → Q l1 w) ∧ (¬ (3 ≤ l2) → (((vp_in (48 + l2) 52))) ∧
((((gw_l w 32 ((48 + l2).toNatClampNeg)) = 0) → bw_G E (d + 1) mX11_filledHoles 4 [some (.ref 0), some (.int l1), some (.int (l2 + 1))] [] w (bw_qi Q)) ∧ (¬ ((gw_l w 32 ((48 + l2).toNatClampNeg)) = 0) → bw_G E (d + 1) mX11_filledHoles 4 [some (.ref 0), some (.int (l1 ||| ((1 : Int32) <<< (l2 &&& 31)))), some (.int (l2 + 1))] [] w (bw_qi Q)))))) : bw_G E (d + 1) mX11_filledHoles 4 [some (.ref 0), some (.int l1), some (.int l2)] [] w (bw_qi Q) := by
  refine bw_iload_n (i := 2) dX11_filledHoles_4 rfl rfl ?_
  refine bw_iconst (v := 3) dX11_filledHoles_5 (by decide) ?_
  refine bw_icmp_ge (tgt := 32) dX11_filledHoles_6 (by decide) (fun c => ?_) (fun c => ?_)
  · replace h := h.1 (c)
    refine bw_iload_n (i := 1) dX11_filledHoles_32 rfl rfl ?_
    exact bw_ireturn dX11_filledHoles_33 rfl rfl ⟨_, rfl, h⟩
  · replace h := h.2 (c)
    refine bw_aload_n (i := 0) dX11_filledHoles_9 rfl rfl ?_
    refine bw_getr (r := 31) fg_BentWords_58 rfl rfl dX11_filledHoles_10 ?_
    refine bw_iload_n (i := 2) dX11_filledHoles_13 rfl rfl ?_
    obtain ⟨hc1, h⟩ := h
    refine bw_cVb (As := [.int l2]) (st := []) (Q' := (fun v w1 => (decide ((gw_l w 32 ((48 + l2).toNatClampNeg)) = 0)) = v ∧ w = w1)) cv_BentWords_223 rfl rfl (fs_X7_isOpen (d := d + 0) (a0 := l2) hc1 ⟨rfl, rfl⟩) rfl rfl (Nat.le_of_ble_eq_true rfl) dX11_filledHoles_14 (fun v w1 hv => ?_)
    obtain ⟨rfl, rfl⟩ := hv
    refine bw_ifb_ne (tgt := 26) dX11_filledHoles_17 (by decide) (fun c => ?_) (fun c => ?_)
    · replace h := h.1 (of_decide_eq_true c)
      refine bw_iinc (i := 2) (x := l2) (v := (l2 + 1)) (L' := [some (.ref 0), some (.int l1), some (.int (l2 + 1))]) dX11_filledHoles_26 rfl rfl (Nat.le_of_ble_eq_true rfl) rfl ?_
      refine bw_goto (tgt := 4) dX11_filledHoles_29 (by decide) ?_
      exact h
    · replace h := h.2 (of_decide_eq_false c)
      refine bw_iload_n (i := 1) dX11_filledHoles_20 rfl rfl ?_
      refine bw_iconst (v := 1) dX11_filledHoles_21 (by decide) ?_
      refine bw_iload_n (i := 2) dX11_filledHoles_22 rfl rfl ?_
      refine bw_ishl dX11_filledHoles_23 ?_
      refine bw_ior dX11_filledHoles_24 ?_
      refine bw_istore_n (i := 1) (L' := [some (.ref 0), some (.int (l1 ||| ((1 : Int32) <<< (l2 &&& 31)))), some (.int l2)]) dX11_filledHoles_25 rfl (Nat.le_of_ble_eq_true rfl) rfl ?_
      refine bw_iinc (i := 2) (x := l2) (v := (l2 + 1)) (L' := [some (.ref 0), some (.int (l1 ||| ((1 : Int32) <<< (l2 &&& 31)))), some (.int (l2 + 1))]) dX11_filledHoles_26 rfl rfl (Nat.le_of_ble_eq_true rfl) rfl ?_
      refine bw_goto (tgt := 4) dX11_filledHoles_29 (by decide) ?_
      exact h
theorem wfX11_filledHoles {E : bw_E} {d : Nat} {w : bw_W} {Q : Int32 → bw_W → Prop}   (h : bw_G E (d + 1) mX11_filledHoles 4 [some (.ref 0), some (.int 0), some (.int 0)] [] w (bw_qi Q)) : bw_ri E (d + 1) mX11_filledHoles [.ref 0] w Q := by
  refine bw_enter rfl (Nat.le_of_ble_eq_true rfl) ?_
  refine bw_iconst (v := 0) dX11_filledHoles_0 (by decide) ?_
  refine bw_istore_n (i := 1) (L' := [some (.ref 0), some (.int 0), none]) dX11_filledHoles_1 rfl (Nat.le_of_ble_eq_true rfl) rfl ?_
  refine bw_iconst (v := 0) dX11_filledHoles_2 (by decide) ?_
  refine bw_istore_n (i := 2) (L' := [some (.ref 0), some (.int 0), some (.int 0)]) dX11_filledHoles_3 rfl (Nat.le_of_ble_eq_true rfl) rfl ?_
  exact h
theorem wfX11_formsToldTwice_4 {E : bw_E} {d : Nat} {w : bw_W} {Q : Int32 → bw_W → Prop} {l1 : Int32} {l2 : Int32}  (h : ((48 ≤ l2 → Q l1 w) ∧ (¬ (48 ≤ l2) → (vp_in l2 52) ∧
(((gw_l w 32 (l2.toNatClampNeg)) = 0 → bw_G E (d + 1) mX11_formsToldTwice 4 [some (.ref 0), some (.int l1), some (.int (l2 + 1))] [] w (bw_qi Q)) ∧ (¬ (gw_l w 32 (l2.toNatClampNeg)) = 0 → (∃ Q2 : Bool → bw_W → Prop, bw_rb E (d + 0) mX11_hasTwin [.ref 0, .int l2] w Q2 ∧ ∀ v3 w4, Q2 v3 w4 →
((v3 = false → bw_G E (d + 1) mX11_formsToldTwice 4 [some (.ref 0), some (.int l1), some (.int (l2 + 1))] [] w4 (bw_qi Q)) ∧ (v3 = true → bw_G E (d + 1) mX11_formsToldTwice 4 [some (.ref 0), some (.int (l1 + 1)), some (.int (l2 + 1))] [] w4 (bw_qi Q))))))))) : bw_G E (d + 1) mX11_formsToldTwice 4 [some (.ref 0), some (.int l1), some (.int l2)] [] w (bw_qi Q) := by
  refine bw_iload_n (i := 2) dX11_formsToldTwice_4 rfl rfl ?_
  refine bw_bipush (v := 48) dX11_formsToldTwice_5 (by decide) ?_
  refine bw_icmp_ge (tgt := 41) dX11_formsToldTwice_7 (by decide) (fun c => ?_) (fun c => ?_)
  · replace h := h.1 (c)
    refine bw_iload_n (i := 1) dX11_formsToldTwice_41 rfl rfl ?_
    exact bw_ireturn dX11_formsToldTwice_42 rfl rfl ⟨_, rfl, h⟩
  · replace h := h.2 (c)
    refine bw_aload_n (i := 0) dX11_formsToldTwice_10 rfl rfl ?_
    refine bw_getr (r := 31) fg_BentWords_58 rfl rfl dX11_formsToldTwice_11 ?_
    refine bw_getr (r := 32) fg_BentWords_170 rfl rfl dX11_formsToldTwice_14 ?_
    refine bw_iload_n (i := 2) dX11_formsToldTwice_17 rfl rfl ?_
    obtain ⟨hi1, h⟩ := h
    refine bw_laload rfl hi1 dX11_formsToldTwice_18 ?_
    refine bw_lconst (v := 0) dX11_formsToldTwice_19 rfl ?_
    refine bw_lcmp_eq (tgt := 35) dX11_formsToldTwice_20 dX11_formsToldTwice_21 (by decide) (fun c => ?_) (fun c => ?_)
    · replace h := h.1 (c)
      refine bw_iinc (i := 2) (x := l2) (v := (l2 + 1)) (L' := [some (.ref 0), some (.int l1), some (.int (l2 + 1))]) dX11_formsToldTwice_35 rfl rfl (Nat.le_of_ble_eq_true rfl) rfl ?_
      refine bw_goto (tgt := 4) dX11_formsToldTwice_38 (by decide) ?_
      exact h
    · replace h := h.2 (c)
      refine bw_aload_n (i := 0) dX11_formsToldTwice_24 rfl rfl ?_
      refine bw_iload_n (i := 2) dX11_formsToldTwice_25 rfl rfl ?_
      obtain ⟨Q2, hr, h⟩ := h
      refine bw_cVb (As := [.int l2]) (st := []) cv_BentWords_426 rfl rfl hr rfl rfl (Nat.le_of_ble_eq_true rfl) dX11_formsToldTwice_26 (fun v3 w4 hv => ?_)
      replace h := h v3 w4 hv
      clear hr
      refine bw_ifb_eq (tgt := 35) dX11_formsToldTwice_29 (by decide) (fun c => ?_) (fun c => ?_)
      · replace h := h.1 (c)
        refine bw_iinc (i := 2) (x := l2) (v := (l2 + 1)) (L' := [some (.ref 0), some (.int l1), some (.int (l2 + 1))]) dX11_formsToldTwice_35 rfl rfl (Nat.le_of_ble_eq_true rfl) rfl ?_
        refine bw_goto (tgt := 4) dX11_formsToldTwice_38 (by decide) ?_
        exact h
      · replace h := h.2 (c)
        refine bw_iinc (i := 1) (x := l1) (v := (l1 + 1)) (L' := [some (.ref 0), some (.int (l1 + 1)), some (.int l2)]) dX11_formsToldTwice_32 rfl rfl (Nat.le_of_ble_eq_true rfl) rfl ?_
        refine bw_iinc (i := 2) (x := l2) (v := (l2 + 1)) (L' := [some (.ref 0), some (.int (l1 + 1)), some (.int (l2 + 1))]) dX11_formsToldTwice_35 rfl rfl (Nat.le_of_ble_eq_true rfl) rfl ?_
        refine bw_goto (tgt := 4) dX11_formsToldTwice_38 (by decide) ?_
        exact h
theorem wfX11_formsToldTwice {E : bw_E} {d : Nat} {w : bw_W} {Q : Int32 → bw_W → Prop}   (h : bw_G E (d + 1) mX11_formsToldTwice 4 [some (.ref 0), some (.int 0), some (.int 0)] [] w (bw_qi Q)) : bw_ri E (d + 1) mX11_formsToldTwice [.ref 0] w Q := by
  refine bw_enter rfl (Nat.le_of_ble_eq_true rfl) ?_
  refine bw_iconst (v := 0) dX11_formsToldTwice_0 (by decide) ?_
  refine bw_istore_n (i := 1) (L' := [some (.ref 0), some (.int 0), none]) dX11_formsToldTwice_1 rfl (Nat.le_of_ble_eq_true rfl) rfl ?_
  refine bw_iconst (v := 0) dX11_formsToldTwice_2 (by decide) ?_
  refine bw_istore_n (i := 2) (L' := [some (.ref 0), some (.int 0), some (.int 0)]) dX11_formsToldTwice_3 rfl (Nat.le_of_ble_eq_true rfl) rfl ?_
  exact h
theorem wfX11_formsToldOf {E : bw_E} {d : Nat} {w : bw_W} {Q : Int32 → bw_W → Prop} {a0 : Int32}  (h : (∃ Q1 : Int32 → bw_W → Prop, bw_ri E (d + 0) mX11_wordsIn [.ref 32, .int (a0 * 8), .int ((a0 + 1) * 8)] w Q1 ∧ ∀ v2 w3, Q1 v2 w3 →
Q v2 w3)) : bw_ri E (d + 1) mX11_formsToldOf [.ref 0, .int a0] w Q := by
  refine bw_enter rfl (Nat.le_of_ble_eq_true rfl) ?_
  refine bw_aload_n (i := 0) dX11_formsToldOf_0 rfl rfl ?_
  refine bw_getr (r := 31) fg_BentWords_58 rfl rfl dX11_formsToldOf_1 ?_
  refine bw_getr (r := 32) fg_BentWords_170 rfl rfl dX11_formsToldOf_4 ?_
  refine bw_iload_n (i := 1) dX11_formsToldOf_7 rfl rfl ?_
  refine bw_bipush (v := 8) dX11_formsToldOf_8 (by decide) ?_
  refine bw_imul dX11_formsToldOf_10 ?_
  refine bw_iload_n (i := 1) dX11_formsToldOf_11 rfl rfl ?_
  refine bw_iconst (v := 1) dX11_formsToldOf_12 (by decide) ?_
  refine bw_iadd dX11_formsToldOf_13 ?_
  refine bw_bipush (v := 8) dX11_formsToldOf_14 (by decide) ?_
  refine bw_imul dX11_formsToldOf_16 ?_
  obtain ⟨Q1, hr, h⟩ := h
  refine bw_cSi (As := [.ref 32, .int (a0 * 8), .int ((a0 + 1) * 8)]) (st := []) cs_BentWords_163 hr rfl rfl (Nat.le_of_ble_eq_true rfl) dX11_formsToldOf_17 (fun v2 w3 hv => ?_)
  replace h := h v2 w3 hv
  clear hr
  exact bw_ireturn dX11_formsToldOf_20 rfl rfl ⟨_, rfl, h⟩
theorem wfX11_lettersOf_2 {E : bw_E} {d : Nat} {w : bw_W} {Q : Int32 → bw_W → Prop} {l0 : Int64} {l2 : Int32}  (h : ((8 ≤ l2 → Q l2 w) ∧ (¬ (8 ≤ l2) → (((vX11_letterOf l0 l2) = 0 → Q l2 w) ∧ (¬ ((vX11_letterOf l0 l2) = 0) → bw_G E (d + 1) mX11_lettersOf 2 [some (.long l0), none, some (.int (l2 + 1))] [] w (bw_qi Q)))))) : bw_G E (d + 1) mX11_lettersOf 2 [some (.long l0), none, some (.int l2)] [] w (bw_qi Q) := by
  refine bw_iload_n (i := 2) dX11_lettersOf_2 rfl rfl ?_
  refine bw_bipush (v := 8) dX11_lettersOf_3 (by decide) ?_
  refine bw_icmp_ge (tgt := 22) dX11_lettersOf_5 (by decide) (fun c => ?_) (fun c => ?_)
  · replace h := h.1 (c)
    refine bw_iload_n (i := 2) dX11_lettersOf_22 rfl rfl ?_
    exact bw_ireturn dX11_lettersOf_23 rfl rfl ⟨_, rfl, h⟩
  · replace h := h.2 (c)
    refine bw_lload_n (i := 0) dX11_lettersOf_8 rfl rfl ?_
    refine bw_iload_n (i := 2) dX11_lettersOf_9 rfl rfl ?_
    refine bw_cSi (As := [.long l0, .int l2]) (st := []) (Q' := (fun v w1 => (vX11_letterOf l0 l2) = v ∧ w = w1)) cs_BentWords_433 (fs_X11_letterOf (d := d + 0) (a0 := l0) (a1 := l2)  ⟨rfl, rfl⟩) rfl rfl (Nat.le_of_ble_eq_true rfl) dX11_lettersOf_10 (fun v w1 hv => ?_)
    obtain ⟨rfl, rfl⟩ := hv
    refine bw_if_eq (tgt := 22) dX11_lettersOf_13 (by decide) (fun c => ?_) (fun c => ?_)
    · replace h := h.1 (c)
      refine bw_iload_n (i := 2) dX11_lettersOf_22 rfl rfl ?_
      exact bw_ireturn dX11_lettersOf_23 rfl rfl ⟨_, rfl, h⟩
    · replace h := h.2 (c)
      refine bw_iinc (i := 2) (x := l2) (v := (l2 + 1)) (L' := [some (.long l0), none, some (.int (l2 + 1))]) dX11_lettersOf_16 rfl rfl (Nat.le_of_ble_eq_true rfl) rfl ?_
      refine bw_goto (tgt := 2) dX11_lettersOf_19 (by decide) ?_
      exact h
theorem wfX11_lettersOf {E : bw_E} {d : Nat} {w : bw_W} {Q : Int32 → bw_W → Prop} {a0 : Int64}  (h : bw_G E (d + 1) mX11_lettersOf 2 [some (.long a0), none, some (.int 0)] [] w (bw_qi Q)) : bw_ri E (d + 1) mX11_lettersOf [.long a0] w Q := by
  refine bw_enter rfl (Nat.le_of_ble_eq_true rfl) ?_
  refine bw_iconst (v := 0) dX11_lettersOf_0 (by decide) ?_
  refine bw_istore_n (i := 2) (L' := [some (.long a0), none, some (.int 0)]) dX11_lettersOf_1 rfl (Nat.le_of_ble_eq_true rfl) rfl ?_
  exact h
theorem wfX12_feed_6 {E : bw_E} {d : Nat} {w : bw_W} {Q : Int32 → bw_W → Prop} {l1 : Int32} {l2 : Int32} {l3 : Int32} {l4 : Int32} {l5 : Int32} {l6 : Int32} {l7 : Int32}  (h : ((20 ≤ l7 → ((((gw_i w 50 2) + l6) ≤ 480 → bw_G E (d + 1) mX12_feed 62 [some (.ref 50), some (.int l1), some (.int l2), some (.int l3), some (.int l4), some (.int l5), some (.int l6), some (.int 0), none] [] w (bw_qi Q)) ∧ (¬ (((gw_i w 50 2) + l6) ≤ 480) → Q (-1) w))) ∧ (¬ (20 ≤ l7) → (((vX12_byteOf l1 l2 l3 l4 l5 l7) = 0 → bw_G E (d + 1) mX12_feed 6 [some (.ref 50), some (.int l1), some (.int l2), some (.int l3), some (.int l4), some (.int l5), some (.int (l6 + 0)), some (.int (l7 + 1)), none] [] w (bw_qi Q)) ∧ (¬ ((vX12_byteOf l1 l2 l3 l4 l5 l7) = 0) → bw_G E (d + 1) mX12_feed 6 [some (.ref 50), some (.int l1), some (.int l2), some (.int l3), some (.int l4), some (.int l5), some (.int (l6 + 1)), some (.int (l7 + 1)), none] [] w (bw_qi Q)))))) : bw_G E (d + 1) mX12_feed 6 [some (.ref 50), some (.int l1), some (.int l2), some (.int l3), some (.int l4), some (.int l5), some (.int l6), some (.int l7), none] [] w (bw_qi Q) := by
  refine bw_iload dX12_feed_6 rfl ?_
  refine bw_bipush (v := 20) dX12_feed_8 (by decide) ?_
  refine bw_icmp_ge (tgt := 44) dX12_feed_10 (by decide) (fun c => ?_) (fun c => ?_)
  · replace h := h.1 (c)
    refine bw_aload_n (i := 0) dX12_feed_44 rfl rfl ?_
    refine bw_geti fg_BentWordsModel_97 rfl dX12_feed_45 ?_
    refine bw_iload dX12_feed_48 rfl ?_
    refine bw_iadd dX12_feed_50 ?_
    refine bw_sipush (v := 480) dX12_feed_51 (by decide) ?_
    refine bw_icmp_le (tgt := 59) dX12_feed_54 (by decide) (fun c => ?_) (fun c => ?_)
    · replace h := h.1 (c)
      refine bw_iconst (v := 0) dX12_feed_59 (by decide) ?_
      refine bw_istore (i := 7) (L' := [some (.ref 50), some (.int l1), some (.int l2), some (.int l3), some (.int l4), some (.int l5), some (.int l6), some (.int 0), none]) dX12_feed_60 (Nat.le_of_ble_eq_true rfl) rfl ?_
      exact h
    · replace h := h.2 (c)
      refine bw_iconst (v := (-1)) dX12_feed_57 (by decide) ?_
      exact bw_ireturn dX12_feed_58 rfl rfl ⟨_, rfl, h⟩
  · replace h := h.2 (c)
    refine bw_iload dX12_feed_13 rfl ?_
    refine bw_iload_n (i := 1) dX12_feed_15 rfl rfl ?_
    refine bw_iload_n (i := 2) dX12_feed_16 rfl rfl ?_
    refine bw_iload_n (i := 3) dX12_feed_17 rfl rfl ?_
    refine bw_iload dX12_feed_18 rfl ?_
    refine bw_iload dX12_feed_20 rfl ?_
    refine bw_iload dX12_feed_22 rfl ?_
    refine bw_cSi (As := [.int l1, .int l2, .int l3, .int l4, .int l5, .int l7]) (st := [.int l6]) (Q' := (fun v w1 => (vX12_byteOf l1 l2 l3 l4 l5 l7) = v ∧ w = w1)) cs_BentWordsModel_93 (fs_X12_byteOf (d := d + 0) (a0 := l1) (a1 := l2) (a2 := l3) (a3 := l4) (a4 := l5) (a5 := l7)  ⟨rfl, rfl⟩) rfl rfl (Nat.le_of_ble_eq_true rfl) dX12_feed_24 (fun v w1 hv => ?_)
    obtain ⟨rfl, rfl⟩ := hv
    refine bw_if_eq (tgt := 34) dX12_feed_27 (by decide) (fun c => ?_) (fun c => ?_)
    · replace h := h.1 (c)
      refine bw_iconst (v := 0) dX12_feed_34 (by decide) ?_
      refine bw_iadd dX12_feed_35 ?_
      refine bw_istore (i := 6) (L' := [some (.ref 50), some (.int l1), some (.int l2), some (.int l3), some (.int l4), some (.int l5), some (.int (l6 + 0)), some (.int l7), none]) dX12_feed_36 (Nat.le_of_ble_eq_true rfl) rfl ?_
      refine bw_iinc (i := 7) (x := l7) (v := (l7 + 1)) (L' := [some (.ref 50), some (.int l1), some (.int l2), some (.int l3), some (.int l4), some (.int l5), some (.int (l6 + 0)), some (.int (l7 + 1)), none]) dX12_feed_38 rfl rfl (Nat.le_of_ble_eq_true rfl) rfl ?_
      refine bw_goto (tgt := 6) dX12_feed_41 (by decide) ?_
      exact h
    · replace h := h.2 (c)
      refine bw_iconst (v := 1) dX12_feed_30 (by decide) ?_
      refine bw_goto (tgt := 35) dX12_feed_31 (by decide) ?_
      refine bw_iadd dX12_feed_35 ?_
      refine bw_istore (i := 6) (L' := [some (.ref 50), some (.int l1), some (.int l2), some (.int l3), some (.int l4), some (.int l5), some (.int (l6 + 1)), some (.int l7), none]) dX12_feed_36 (Nat.le_of_ble_eq_true rfl) rfl ?_
      refine bw_iinc (i := 7) (x := l7) (v := (l7 + 1)) (L' := [some (.ref 50), some (.int l1), some (.int l2), some (.int l3), some (.int l4), some (.int l5), some (.int (l6 + 1)), some (.int (l7 + 1)), none]) dX12_feed_38 rfl rfl (Nat.le_of_ble_eq_true rfl) rfl ?_
      refine bw_goto (tgt := 6) dX12_feed_41 (by decide) ?_
      exact h
theorem wfX12_feed_62 {E : bw_E} {d : Nat} {w : bw_W} {Q : Int32 → bw_W → Prop} {l1 : Int32} {l2 : Int32} {l3 : Int32} {l4 : Int32} {l5 : Int32} {l6 : Int32} {l7 : Int32}  (h : ((20 ≤ l7 → Q (gw_i w 50 2) w) ∧ (¬ (20 ≤ l7) → (((vX12_byteOf l1 l2 l3 l4 l5 l7) = 0 → bw_G E (d + 1) mX12_feed 62 [some (.ref 50), some (.int l1), some (.int l2), some (.int l3), some (.int l4), some (.int l5), some (.int l6), some (.int (l7 + 1)), none] [] w (bw_qi Q)) ∧ (¬ ((vX12_byteOf l1 l2 l3 l4 l5 l7) = 0) → (vp_in (gw_i w 50 2) 480) ∧
bw_G E (d + 1) mX12_feed 62 [some (.ref 50), some (.int l1), some (.int l2), some (.int l3), some (.int l4), some (.int l5), some (.int l6), some (.int (l7 + 1)), none] [] (sw_i (sw_i w 51 ((gw_i w 50 2).toNatClampNeg) (vX12_byteOf l1 l2 l3 l4 l5 l7)) 50 2 ((gw_i w 50 2) + 1)) (bw_qi Q)))))) : bw_G E (d + 1) mX12_feed 62 [some (.ref 50), some (.int l1), some (.int l2), some (.int l3), some (.int l4), some (.int l5), some (.int l6), some (.int l7), none] [] w (bw_qi Q) := by
  refine bw_iload dX12_feed_62 rfl ?_
  refine bw_bipush (v := 20) dX12_feed_64 (by decide) ?_
  refine bw_icmp_ge (tgt := 115) dX12_feed_66 (by decide) (fun c => ?_) (fun c => ?_)
  · replace h := h.1 (c)
    refine bw_aload_n (i := 0) dX12_feed_115 rfl rfl ?_
    refine bw_geti fg_BentWordsModel_97 rfl dX12_feed_116 ?_
    exact bw_ireturn dX12_feed_119 rfl rfl ⟨_, rfl, h⟩
  · replace h := h.2 (c)
    refine bw_iload_n (i := 1) dX12_feed_69 rfl rfl ?_
    refine bw_iload_n (i := 2) dX12_feed_70 rfl rfl ?_
    refine bw_iload_n (i := 3) dX12_feed_71 rfl rfl ?_
    refine bw_iload dX12_feed_72 rfl ?_
    refine bw_iload dX12_feed_74 rfl ?_
    refine bw_iload dX12_feed_76 rfl ?_
    refine bw_cSi (As := [.int l1, .int l2, .int l3, .int l4, .int l5, .int l7]) (st := []) (Q' := (fun v w1 => (vX12_byteOf l1 l2 l3 l4 l5 l7) = v ∧ w = w1)) cs_BentWordsModel_93 (fs_X12_byteOf (d := d + 0) (a0 := l1) (a1 := l2) (a2 := l3) (a3 := l4) (a4 := l5) (a5 := l7)  ⟨rfl, rfl⟩) rfl rfl (Nat.le_of_ble_eq_true rfl) dX12_feed_78 (fun v w1 hv => ?_)
    obtain ⟨rfl, rfl⟩ := hv
    refine bw_istore (i := 8) (L' := [some (.ref 50), some (.int l1), some (.int l2), some (.int l3), some (.int l4), some (.int l5), some (.int l6), some (.int l7), some (.int (vX12_byteOf l1 l2 l3 l4 l5 l7))]) dX12_feed_81 (Nat.le_of_ble_eq_true rfl) rfl ?_
    refine bw_iload dX12_feed_83 rfl ?_
    refine bw_if_eq (tgt := 109) dX12_feed_85 (by decide) (fun c => ?_) (fun c => ?_)
    · replace h := h.1 (c)
      refine bw_iinc (i := 7) (x := l7) (v := (l7 + 1)) (L' := [some (.ref 50), some (.int l1), some (.int l2), some (.int l3), some (.int l4), some (.int l5), some (.int l6), some (.int (l7 + 1)), some (.int (vX12_byteOf l1 l2 l3 l4 l5 l7))]) dX12_feed_109 rfl rfl (Nat.le_of_ble_eq_true rfl) rfl ?_
      refine bw_goto (tgt := 62) dX12_feed_112 (by decide) ?_
      exact bw_wk [8] rfl h
    · replace h := h.2 (c)
      refine bw_aload_n (i := 0) dX12_feed_88 rfl rfl ?_
      refine bw_getr (r := 51) fg_BentWordsModel_9 rfl rfl dX12_feed_89 ?_
      refine bw_aload_n (i := 0) dX12_feed_92 rfl rfl ?_
      refine bw_geti fg_BentWordsModel_97 rfl dX12_feed_93 ?_
      refine bw_iload dX12_feed_96 rfl ?_
      obtain ⟨hi1, h⟩ := h
      refine bw_iastore rfl hi1 dX12_feed_98 ?_
      refine bw_aload_n (i := 0) dX12_feed_99 rfl rfl ?_
      refine bw_dup dX12_feed_100 rfl ?_
      refine bw_geti fg_BentWordsModel_97 rfl dX12_feed_101 ?_
      rw [show gw_i (sw_i w 51 ((gw_i w 50 2).toNatClampNeg) (vX12_byteOf l1 l2 l3 l4 l5 l7)) 50 2 = (gw_i w 50 2) from rfl]
      refine bw_iconst (v := 1) dX12_feed_104 (by decide) ?_
      refine bw_iadd dX12_feed_105 ?_
      refine bw_puti fp_BentWordsModel_97 rfl rfl rfl dX12_feed_106 ?_
      refine bw_iinc (i := 7) (x := l7) (v := (l7 + 1)) (L' := [some (.ref 50), some (.int l1), some (.int l2), some (.int l3), some (.int l4), some (.int l5), some (.int l6), some (.int (l7 + 1)), some (.int (vX12_byteOf l1 l2 l3 l4 l5 l7))]) dX12_feed_109 rfl rfl (Nat.le_of_ble_eq_true rfl) rfl ?_
      refine bw_goto (tgt := 62) dX12_feed_112 (by decide) ?_
      exact bw_wk [8] rfl h
theorem wfX12_feed {E : bw_E} {d : Nat} {w : bw_W} {Q : Int32 → bw_W → Prop} {a0 : Int32} {a1 : Int32} {a2 : Int32} {a3 : Int32} {a4 : Int32}  (h : bw_G E (d + 1) mX12_feed 6 [some (.ref 50), some (.int a0), some (.int a1), some (.int a2), some (.int a3), some (.int a4), some (.int 0), some (.int 0), none] [] w (bw_qi Q)) : bw_ri E (d + 1) mX12_feed [.ref 50, .int a0, .int a1, .int a2, .int a3, .int a4] w Q := by
  refine bw_enter rfl (Nat.le_of_ble_eq_true rfl) ?_
  refine bw_iconst (v := 0) dX12_feed_0 (by decide) ?_
  refine bw_istore (i := 6) (L' := [some (.ref 50), some (.int a0), some (.int a1), some (.int a2), some (.int a3), some (.int a4), some (.int 0), none, none]) dX12_feed_1 (Nat.le_of_ble_eq_true rfl) rfl ?_
  refine bw_iconst (v := 0) dX12_feed_3 (by decide) ?_
  refine bw_istore (i := 7) (L' := [some (.ref 50), some (.int a0), some (.int a1), some (.int a2), some (.int a3), some (.int a4), some (.int 0), some (.int 0), none]) dX12_feed_4 (Nat.le_of_ble_eq_true rfl) rfl ?_
  exact h
theorem wfX12_end {E : bw_E} {d : Nat} {w : bw_W} {Q : Bool → bw_W → Prop} {a0 : Int32}  (h : (((¬ (a0 < 0)) ∧ (¬ ((gw_i w 50 2) < a0)) → Q true (sw_i w 50 2 a0)) ∧ (¬ ((¬ (a0 < 0)) ∧ (¬ ((gw_i w 50 2) < a0))) → Q false w))) : bw_rb E (d + 1) mX12_end [.ref 50, .int a0] w Q := by
  refine bw_enter rfl (Nat.le_of_ble_eq_true rfl) ?_
  refine bw_iload_n (i := 1) dX12_end_0 rfl rfl ?_
  refine bw_iconst (v := 0) dX12_end_1 (by decide) ?_
  refine bw_aload_n (i := 0) dX12_end_2 rfl rfl ?_
  refine bw_geti fg_BentWordsModel_97 rfl dX12_end_3 ?_
  refine bw_cSb (As := [.int a0, .int 0, .int (gw_i w 50 2)]) (st := []) (Q' := (fun v w1 => (decide ((¬ (a0 < 0)) ∧ (¬ ((gw_i w 50 2) < a0)))) = v ∧ w = w1)) cs_BentWordsModel_100 (fs_X12_in (d := d + 0) (a0 := a0) (a1 := 0) (a2 := (gw_i w 50 2))  ⟨rfl, rfl⟩) rfl rfl (Nat.le_of_ble_eq_true rfl) dX12_end_6 (fun v w1 hv => ?_)
  obtain ⟨rfl, rfl⟩ := hv
  refine bw_ifb_ne (tgt := 14) dX12_end_9 (by decide) (fun c => ?_) (fun c => ?_)
  · replace h := h.1 (of_decide_eq_true c)
    refine bw_aload_n (i := 0) dX12_end_14 rfl rfl ?_
    refine bw_iload_n (i := 1) dX12_end_15 rfl rfl ?_
    refine bw_puti fp_BentWordsModel_97 rfl rfl rfl dX12_end_16 ?_
    refine bw_iconst (v := 1) dX12_end_19 (by decide) ?_
    exact bw_ireturn dX12_end_20 rfl (bw_nb true) ⟨true, rfl, h⟩
  · replace h := h.2 (of_decide_eq_false c)
    refine bw_iconst (v := 0) dX12_end_12 (by decide) ?_
    exact bw_ireturn dX12_end_13 rfl (bw_nb false) ⟨false, rfl, h⟩
theorem wfX12_readWord_10 {E : bw_E} {d : Nat} {w : bw_W} {Q : bw_W → Prop}   (h : (((¬ ((gw_i w 50 2) ≤ (gw_i w 50 3))) → (vp_in (gw_i w 50 3) 480))) ∧
((¬ ((¬ ((vX12_here w ) < 97)) ∧ (¬ (122 < (vX12_here w )))) → Q (sw_i w 50 4 1)) ∧ ((¬ ((vX12_here w ) < 97)) ∧ (¬ (122 < (vX12_here w ))) → ((8 ≤ (gw_i w 50 9) → bw_G E (d + 1) mX12_readWord 10 [some (.ref 50)] [] (sw_i (sw_i (sw_l w 50 11 0) 50 9 ((gw_i w 50 9) + 1)) 50 3 ((gw_i w 50 3) + 1)) (bw_qv Q)) ∧ (¬ (8 ≤ (gw_i w 50 9)) → (((¬ ((gw_i w 50 2) ≤ (gw_i w 50 3))) → (vp_in (gw_i w 50 3) 480))) ∧
bw_G E (d + 1) mX12_readWord 10 [some (.ref 50)] [] (sw_i (sw_i (sw_l w 50 11 ((((27 * (gw_l w 50 11)) + ((vX12_here w ).toInt64)) - 97) + 1)) 50 9 ((gw_i w 50 9) + 1)) 50 3 ((gw_i w 50 3) + 1)) (bw_qv Q)))))) : bw_G E (d + 1) mX12_readWord 10 [some (.ref 50)] [] w (bw_qv Q) := by
  refine bw_aload_n (i := 0) dX12_readWord_10 rfl rfl ?_
  obtain ⟨hc1, h⟩ := h
  refine bw_cVi (As := []) (st := []) (Q' := (fun v w1 => (vX12_here w ) = v ∧ w = w1)) cv_BentWordsModel_114 rfl rfl (fs_X12_here (d := d + 0)  hc1 ⟨rfl, rfl⟩) rfl rfl (Nat.le_of_ble_eq_true rfl) dX12_readWord_11 (fun v w1 hv => ?_)
  obtain ⟨rfl, rfl⟩ := hv
  refine bw_cSb (As := [.int (vX12_here w )]) (st := []) (Q' := (fun v w1 => (decide ((¬ ((vX12_here w ) < 97)) ∧ (¬ (122 < (vX12_here w ))))) = v ∧ w = w1)) cs_BentWordsModel_118 (fs_X12_isLetter (d := d + 0) (a0 := (vX12_here w ))  ⟨rfl, rfl⟩) rfl rfl (Nat.le_of_ble_eq_true rfl) dX12_readWord_14 (fun v w1 hv => ?_)
  obtain ⟨rfl, rfl⟩ := hv
  refine bw_ifb_eq (tgt := 80) dX12_readWord_17 (by decide) (fun c => ?_) (fun c => ?_)
  · replace h := h.1 (of_decide_eq_false c)
    refine bw_aload_n (i := 0) dX12_readWord_80 rfl rfl ?_
    refine bw_iconst (v := 1) dX12_readWord_81 (by decide) ?_
    refine bw_puti fp_BentWordsModel_126 rfl rfl rfl dX12_readWord_82 ?_
    exact bw_return dX12_readWord_85 rfl ⟨rfl, h⟩
  · replace h := h.2 (of_decide_eq_true c)
    refine bw_aload_n (i := 0) dX12_readWord_20 rfl rfl ?_
    refine bw_aload_n (i := 0) dX12_readWord_21 rfl rfl ?_
    refine bw_geti fg_BentWordsModel_111 rfl dX12_readWord_22 ?_
    refine bw_bipush (v := 8) dX12_readWord_25 (by decide) ?_
    refine bw_icmp_ge (tgt := 53) dX12_readWord_27 (by decide) (fun c => ?_) (fun c => ?_)
    · replace h := h.1 (c)
      refine bw_lconst (v := 0) dX12_readWord_53 rfl ?_
      refine bw_putl fp_BentWordsModel_107 rfl dX12_readWord_54 ?_
      refine bw_aload_n (i := 0) dX12_readWord_57 rfl rfl ?_
      refine bw_dup dX12_readWord_58 rfl ?_
      refine bw_geti fg_BentWordsModel_111 rfl dX12_readWord_59 ?_
      rw [show gw_i (sw_l w 50 11 0) 50 9 = (gw_i w 50 9) from rfl]
      refine bw_iconst (v := 1) dX12_readWord_62 (by decide) ?_
      refine bw_iadd dX12_readWord_63 ?_
      refine bw_puti fp_BentWordsModel_111 rfl rfl rfl dX12_readWord_64 ?_
      refine bw_aload_n (i := 0) dX12_readWord_67 rfl rfl ?_
      refine bw_dup dX12_readWord_68 rfl ?_
      refine bw_geti fg_BentWordsModel_104 rfl dX12_readWord_69 ?_
      rw [show gw_i (sw_i (sw_l w 50 11 0) 50 9 ((gw_i w 50 9) + 1)) 50 3 = (gw_i w 50 3) from rfl]
      refine bw_iconst (v := 1) dX12_readWord_72 (by decide) ?_
      refine bw_iadd dX12_readWord_73 ?_
      refine bw_puti fp_BentWordsModel_104 rfl rfl rfl dX12_readWord_74 ?_
      refine bw_goto (tgt := 10) dX12_readWord_77 (by decide) ?_
      exact h
    · replace h := h.2 (c)
      refine bw_ldc2 kl_BentWordsModel_122 dX12_readWord_30 ?_
      refine bw_aload_n (i := 0) dX12_readWord_33 rfl rfl ?_
      refine bw_getl fg_BentWordsModel_107 rfl dX12_readWord_34 ?_
      refine bw_lmul dX12_readWord_37 ?_
      refine bw_aload_n (i := 0) dX12_readWord_38 rfl rfl ?_
      obtain ⟨hc2, h⟩ := h
      refine bw_cVi (As := []) (st := [.long (27 * (gw_l w 50 11)), .ref 50]) (Q' := (fun v w1 => (vX12_here w ) = v ∧ w = w1)) cv_BentWordsModel_114 rfl rfl (fs_X12_here (d := d + 0)  hc2 ⟨rfl, rfl⟩) rfl rfl (Nat.le_of_ble_eq_true rfl) dX12_readWord_39 (fun v w1 hv => ?_)
      obtain ⟨rfl, rfl⟩ := hv
      refine bw_i2l dX12_readWord_42 ?_
      refine bw_ladd dX12_readWord_43 ?_
      refine bw_ldc2 kl_BentWordsModel_124 dX12_readWord_44 ?_
      refine bw_lsub dX12_readWord_47 ?_
      refine bw_lconst (v := 1) dX12_readWord_48 rfl ?_
      refine bw_ladd dX12_readWord_49 ?_
      refine bw_goto (tgt := 54) dX12_readWord_50 (by decide) ?_
      refine bw_putl fp_BentWordsModel_107 rfl dX12_readWord_54 ?_
      refine bw_aload_n (i := 0) dX12_readWord_57 rfl rfl ?_
      refine bw_dup dX12_readWord_58 rfl ?_
      refine bw_geti fg_BentWordsModel_111 rfl dX12_readWord_59 ?_
      rw [show gw_i (sw_l w 50 11 ((((27 * (gw_l w 50 11)) + ((vX12_here w ).toInt64)) - 97) + 1)) 50 9 = (gw_i w 50 9) from rfl]
      refine bw_iconst (v := 1) dX12_readWord_62 (by decide) ?_
      refine bw_iadd dX12_readWord_63 ?_
      refine bw_puti fp_BentWordsModel_111 rfl rfl rfl dX12_readWord_64 ?_
      refine bw_aload_n (i := 0) dX12_readWord_67 rfl rfl ?_
      refine bw_dup dX12_readWord_68 rfl ?_
      refine bw_geti fg_BentWordsModel_104 rfl dX12_readWord_69 ?_
      rw [show gw_i (sw_i (sw_l w 50 11 ((((27 * (gw_l w 50 11)) + ((vX12_here w ).toInt64)) - 97) + 1)) 50 9 ((gw_i w 50 9) + 1)) 50 3 = (gw_i w 50 3) from rfl]
      refine bw_iconst (v := 1) dX12_readWord_72 (by decide) ?_
      refine bw_iadd dX12_readWord_73 ?_
      refine bw_puti fp_BentWordsModel_104 rfl rfl rfl dX12_readWord_74 ?_
      refine bw_goto (tgt := 10) dX12_readWord_77 (by decide) ?_
      exact h
theorem wfX12_readWord {E : bw_E} {d : Nat} {w : bw_W} {Q : bw_W → Prop}   (h : bw_G E (d + 1) mX12_readWord 10 [some (.ref 50)] [] (sw_i (sw_l w 50 11 0) 50 9 0) (bw_qv Q)) : bw_rv E (d + 1) mX12_readWord [.ref 50] w Q := by
  refine bw_enter rfl (Nat.le_of_ble_eq_true rfl) ?_
  refine bw_aload_n (i := 0) dX12_readWord_0 rfl rfl ?_
  refine bw_lconst (v := 0) dX12_readWord_1 rfl ?_
  refine bw_putl fp_BentWordsModel_107 rfl dX12_readWord_2 ?_
  refine bw_aload_n (i := 0) dX12_readWord_5 rfl rfl ?_
  refine bw_iconst (v := 0) dX12_readWord_6 (by decide) ?_
  refine bw_puti fp_BentWordsModel_111 rfl rfl rfl dX12_readWord_7 ?_
  exact h
theorem wfX12_readNumber_10 {E : bw_E} {d : Nat} {w : bw_W} {Q : bw_W → Prop}   (h : (((¬ ((gw_i w 50 2) ≤ (gw_i w 50 3))) → (vp_in (gw_i w 50 3) 480))) ∧
((¬ ((¬ ((vX12_here w ) < 48)) ∧ (¬ (57 < (vX12_here w )))) → Q (sw_i w 50 4 2)) ∧ ((¬ ((vX12_here w ) < 48)) ∧ (¬ (57 < (vX12_here w ))) → ((2 ≤ (gw_i w 50 7) → bw_G E (d + 1) mX12_readNumber 10 [some (.ref 50)] [] (sw_i (sw_i (sw_i w 50 6 0) 50 7 ((gw_i w 50 7) + 1)) 50 3 ((gw_i w 50 3) + 1)) (bw_qv Q)) ∧ (¬ (2 ≤ (gw_i w 50 7)) → (((¬ ((gw_i w 50 2) ≤ (gw_i w 50 3))) → (vp_in (gw_i w 50 3) 480))) ∧
bw_G E (d + 1) mX12_readNumber 10 [some (.ref 50)] [] (sw_i (sw_i (sw_i w 50 6 (((10 * (gw_i w 50 6)) + (vX12_here w )) - 48)) 50 7 ((gw_i w 50 7) + 1)) 50 3 ((gw_i w 50 3) + 1)) (bw_qv Q)))))) : bw_G E (d + 1) mX12_readNumber 10 [some (.ref 50)] [] w (bw_qv Q) := by
  refine bw_aload_n (i := 0) dX12_readNumber_10 rfl rfl ?_
  obtain ⟨hc1, h⟩ := h
  refine bw_cVi (As := []) (st := []) (Q' := (fun v w1 => (vX12_here w ) = v ∧ w = w1)) cv_BentWordsModel_114 rfl rfl (fs_X12_here (d := d + 0)  hc1 ⟨rfl, rfl⟩) rfl rfl (Nat.le_of_ble_eq_true rfl) dX12_readNumber_11 (fun v w1 hv => ?_)
  obtain ⟨rfl, rfl⟩ := hv
  refine bw_cSb (As := [.int (vX12_here w )]) (st := []) (Q' := (fun v w1 => (decide ((¬ ((vX12_here w ) < 48)) ∧ (¬ (57 < (vX12_here w ))))) = v ∧ w = w1)) cs_BentWordsModel_135 (fs_X12_isDigit (d := d + 0) (a0 := (vX12_here w ))  ⟨rfl, rfl⟩) rfl rfl (Nat.le_of_ble_eq_true rfl) dX12_readNumber_14 (fun v w1 hv => ?_)
  obtain ⟨rfl, rfl⟩ := hv
  refine bw_ifb_eq (tgt := 74) dX12_readNumber_17 (by decide) (fun c => ?_) (fun c => ?_)
  · replace h := h.1 (of_decide_eq_false c)
    refine bw_aload_n (i := 0) dX12_readNumber_74 rfl rfl ?_
    refine bw_iconst (v := 2) dX12_readNumber_75 (by decide) ?_
    refine bw_puti fp_BentWordsModel_126 rfl rfl rfl dX12_readNumber_76 ?_
    exact bw_return dX12_readNumber_79 rfl ⟨rfl, h⟩
  · replace h := h.2 (of_decide_eq_true c)
    refine bw_aload_n (i := 0) dX12_readNumber_20 rfl rfl ?_
    refine bw_aload_n (i := 0) dX12_readNumber_21 rfl rfl ?_
    refine bw_geti fg_BentWordsModel_132 rfl dX12_readNumber_22 ?_
    refine bw_iconst (v := 2) dX12_readNumber_25 (by decide) ?_
    refine bw_icmp_ge (tgt := 47) dX12_readNumber_26 (by decide) (fun c => ?_) (fun c => ?_)
    · replace h := h.1 (c)
      refine bw_iconst (v := 0) dX12_readNumber_47 (by decide) ?_
      refine bw_puti fp_BentWordsModel_129 rfl rfl rfl dX12_readNumber_48 ?_
      refine bw_aload_n (i := 0) dX12_readNumber_51 rfl rfl ?_
      refine bw_dup dX12_readNumber_52 rfl ?_
      refine bw_geti fg_BentWordsModel_132 rfl dX12_readNumber_53 ?_
      rw [show gw_i (sw_i w 50 6 0) 50 7 = (gw_i w 50 7) from rfl]
      refine bw_iconst (v := 1) dX12_readNumber_56 (by decide) ?_
      refine bw_iadd dX12_readNumber_57 ?_
      refine bw_puti fp_BentWordsModel_132 rfl rfl rfl dX12_readNumber_58 ?_
      refine bw_aload_n (i := 0) dX12_readNumber_61 rfl rfl ?_
      refine bw_dup dX12_readNumber_62 rfl ?_
      refine bw_geti fg_BentWordsModel_104 rfl dX12_readNumber_63 ?_
      rw [show gw_i (sw_i (sw_i w 50 6 0) 50 7 ((gw_i w 50 7) + 1)) 50 3 = (gw_i w 50 3) from rfl]
      refine bw_iconst (v := 1) dX12_readNumber_66 (by decide) ?_
      refine bw_iadd dX12_readNumber_67 ?_
      refine bw_puti fp_BentWordsModel_104 rfl rfl rfl dX12_readNumber_68 ?_
      refine bw_goto (tgt := 10) dX12_readNumber_71 (by decide) ?_
      exact h
    · replace h := h.2 (c)
      refine bw_bipush (v := 10) dX12_readNumber_29 (by decide) ?_
      refine bw_aload_n (i := 0) dX12_readNumber_31 rfl rfl ?_
      refine bw_geti fg_BentWordsModel_129 rfl dX12_readNumber_32 ?_
      refine bw_imul dX12_readNumber_35 ?_
      refine bw_aload_n (i := 0) dX12_readNumber_36 rfl rfl ?_
      obtain ⟨hc2, h⟩ := h
      refine bw_cVi (As := []) (st := [.int (10 * (gw_i w 50 6)), .ref 50]) (Q' := (fun v w1 => (vX12_here w ) = v ∧ w = w1)) cv_BentWordsModel_114 rfl rfl (fs_X12_here (d := d + 0)  hc2 ⟨rfl, rfl⟩) rfl rfl (Nat.le_of_ble_eq_true rfl) dX12_readNumber_37 (fun v w1 hv => ?_)
      obtain ⟨rfl, rfl⟩ := hv
      refine bw_iadd dX12_readNumber_40 ?_
      refine bw_bipush (v := 48) dX12_readNumber_41 (by decide) ?_
      refine bw_isub dX12_readNumber_43 ?_
      refine bw_goto (tgt := 48) dX12_readNumber_44 (by decide) ?_
      refine bw_puti fp_BentWordsModel_129 rfl rfl rfl dX12_readNumber_48 ?_
      refine bw_aload_n (i := 0) dX12_readNumber_51 rfl rfl ?_
      refine bw_dup dX12_readNumber_52 rfl ?_
      refine bw_geti fg_BentWordsModel_132 rfl dX12_readNumber_53 ?_
      rw [show gw_i (sw_i w 50 6 (((10 * (gw_i w 50 6)) + (vX12_here w )) - 48)) 50 7 = (gw_i w 50 7) from rfl]
      refine bw_iconst (v := 1) dX12_readNumber_56 (by decide) ?_
      refine bw_iadd dX12_readNumber_57 ?_
      refine bw_puti fp_BentWordsModel_132 rfl rfl rfl dX12_readNumber_58 ?_
      refine bw_aload_n (i := 0) dX12_readNumber_61 rfl rfl ?_
      refine bw_dup dX12_readNumber_62 rfl ?_
      refine bw_geti fg_BentWordsModel_104 rfl dX12_readNumber_63 ?_
      rw [show gw_i (sw_i (sw_i w 50 6 (((10 * (gw_i w 50 6)) + (vX12_here w )) - 48)) 50 7 ((gw_i w 50 7) + 1)) 50 3 = (gw_i w 50 3) from rfl]
      refine bw_iconst (v := 1) dX12_readNumber_66 (by decide) ?_
      refine bw_iadd dX12_readNumber_67 ?_
      refine bw_puti fp_BentWordsModel_104 rfl rfl rfl dX12_readNumber_68 ?_
      refine bw_goto (tgt := 10) dX12_readNumber_71 (by decide) ?_
      exact h
theorem wfX12_readNumber {E : bw_E} {d : Nat} {w : bw_W} {Q : bw_W → Prop}   (h : bw_G E (d + 1) mX12_readNumber 10 [some (.ref 50)] [] (sw_i (sw_i w 50 6 0) 50 7 0) (bw_qv Q)) : bw_rv E (d + 1) mX12_readNumber [.ref 50] w Q := by
  refine bw_enter rfl (Nat.le_of_ble_eq_true rfl) ?_
  refine bw_aload_n (i := 0) dX12_readNumber_0 rfl rfl ?_
  refine bw_iconst (v := 0) dX12_readNumber_1 (by decide) ?_
  refine bw_puti fp_BentWordsModel_129 rfl rfl rfl dX12_readNumber_2 ?_
  refine bw_aload_n (i := 0) dX12_readNumber_5 rfl rfl ?_
  refine bw_iconst (v := 0) dX12_readNumber_6 (by decide) ?_
  refine bw_puti fp_BentWordsModel_132 rfl rfl rfl dX12_readNumber_7 ?_
  exact h
theorem wfX12_bad {E : bw_E} {d : Nat} {w : bw_W} {Q : bw_W → Prop}   (h : Q (sw_i w 50 10 (if ¬ (gw_i w 50 10) = (-1) then (gw_i w 50 10) else (gw_i w 50 5)))) : bw_rv E (d + 1) mX12_bad [.ref 50] w Q := by
  refine bw_enter rfl (Nat.le_of_ble_eq_true rfl) ?_
  refine bw_aload_n (i := 0) dX12_bad_0 rfl rfl ?_
  refine bw_aload_n (i := 0) dX12_bad_1 rfl rfl ?_
  refine bw_geti fg_BentWordsModel_138 rfl dX12_bad_2 ?_
  refine bw_cVv (As := [.int (gw_i w 50 5)]) (st := []) (Q' := (fun w1 => (sw_i w 50 10 (if ¬ (gw_i w 50 10) = (-1) then (gw_i w 50 10) else (gw_i w 50 5))) = w1)) cv_BentWordsModel_153 rfl rfl (fs_X12_badAt (d := d + 0) (a0 := (gw_i w 50 5))  rfl) rfl rfl (Nat.le_of_ble_eq_true rfl) dX12_bad_5 (fun w1 hv => ?_)
  subst hv
  exact bw_return dX12_bad_8 rfl ⟨rfl, h⟩
theorem fs_X12_bad {E : bw_E} {d : Nat} {w : bw_W} {Q : bw_W → Prop}    (h : Q (sw_i w 50 10 (if ¬ (gw_i w 50 10) = (-1) then (gw_i w 50 10) else (gw_i w 50 5)))) : bw_rv E (d + 1) mX12_bad [.ref 50] w Q := by
  refine wfX12_bad  ?_
  exact h
theorem wfX12_isWord {E : bw_E} {d : Nat} {w : bw_W} {Q : Bool → bw_W → Prop} {a0 : Int64}  (h : ((¬ (gw_i w 50 10) = (-1) → Q false w) ∧ ((gw_i w 50 10) = (-1) → ((¬ (((gw_i w 50 4) = 1) ∧ (¬ (8 < (gw_i w 50 9)))) → Q false w) ∧ (((gw_i w 50 4) = 1) ∧ (¬ (8 < (gw_i w 50 9))) → ((¬ (gw_l w 50 11) = a0 → Q false w) ∧ ((gw_l w 50 11) = a0 → Q true w))))))) : bw_rb E (d + 1) mX12_isWord [.ref 50, .long a0] w Q := by
  refine bw_enter rfl (Nat.le_of_ble_eq_true rfl) ?_
  refine bw_aload_n (i := 0) dX12_isWord_0 rfl rfl ?_
  refine bw_geti fg_BentWordsModel_150 rfl dX12_isWord_1 ?_
  refine bw_iconst (v := (-1)) dX12_isWord_4 (by decide) ?_
  refine bw_icmp_ne (tgt := 28) dX12_isWord_5 (by decide) (fun c => ?_) (fun c => ?_)
  · replace h := h.1 (c)
    refine bw_iconst (v := 0) dX12_isWord_28 (by decide) ?_
    exact bw_ireturn dX12_isWord_29 rfl (bw_nb false) ⟨false, rfl, h⟩
  · replace h := h.2 (c)
    refine bw_aload_n (i := 0) dX12_isWord_8 rfl rfl ?_
    refine bw_cVb (As := []) (st := []) (Q' := (fun v w1 => (decide (((gw_i w 50 4) = 1) ∧ (¬ (8 < (gw_i w 50 9))))) = v ∧ w = w1)) cv_BentWordsModel_163 rfl rfl (fs_X12_isGood (d := d + 0)   ⟨rfl, rfl⟩) rfl rfl (Nat.le_of_ble_eq_true rfl) dX12_isWord_9 (fun v w1 hv => ?_)
    obtain ⟨rfl, rfl⟩ := hv
    refine bw_ifb_eq (tgt := 28) dX12_isWord_12 (by decide) (fun c => ?_) (fun c => ?_)
    · replace h := h.1 (of_decide_eq_false c)
      refine bw_iconst (v := 0) dX12_isWord_28 (by decide) ?_
      exact bw_ireturn dX12_isWord_29 rfl (bw_nb false) ⟨false, rfl, h⟩
    · replace h := h.2 (of_decide_eq_true c)
      refine bw_aload_n (i := 0) dX12_isWord_15 rfl rfl ?_
      refine bw_getl fg_BentWordsModel_107 rfl dX12_isWord_16 ?_
      refine bw_lload_n (i := 1) dX12_isWord_19 rfl rfl ?_
      refine bw_lcmp_ne (tgt := 28) dX12_isWord_20 dX12_isWord_21 (by decide) (fun c => ?_) (fun c => ?_)
      · replace h := h.1 (c)
        refine bw_iconst (v := 0) dX12_isWord_28 (by decide) ?_
        exact bw_ireturn dX12_isWord_29 rfl (bw_nb false) ⟨false, rfl, h⟩
      · replace h := h.2 (c)
        refine bw_iconst (v := 1) dX12_isWord_24 (by decide) ?_
        refine bw_goto (tgt := 29) dX12_isWord_25 (by decide) ?_
        exact bw_ireturn dX12_isWord_29 rfl (bw_nb true) ⟨true, rfl, h⟩
theorem fs_X12_isWord {E : bw_E} {d : Nat} {w : bw_W} {Q : Bool → bw_W → Prop} {a0 : Int64}   (h : Q (decide (((gw_i w 50 10) = (-1)) ∧ ((((gw_i w 50 4) = 1) ∧ (¬ (8 < (gw_i w 50 9)))) ∧ ((gw_l w 50 11) = a0)))) w) : bw_rb E (d + 1) mX12_isWord [.ref 50, .long a0] w Q := by
  refine wfX12_isWord  ?_
  refine ⟨fun c0 => ?_, fun c0 => ?_⟩
  · (try simp only [c0, if_true, if_false, ite_true, ite_false, decide_true, decide_false, true_and, and_true, false_and, and_false, not_true_eq_false, not_false_eq_true, true_or, or_true, false_or, or_false, or_self, and_self, Classical.not_not] at h) <;> exact h
  · refine ⟨fun c1 => ?_, fun c1 => ?_⟩
    · (try simp only [c0, c1, if_true, if_false, ite_true, ite_false, decide_true, decide_false, true_and, and_true, false_and, and_false, not_true_eq_false, not_false_eq_true, true_or, or_true, false_or, or_false, or_self, and_self, Classical.not_not] at h) <;> exact h
    · refine ⟨fun c2 => ?_, fun c2 => ?_⟩
      · (try simp only [c0, c1, c2, if_true, if_false, ite_true, ite_false, decide_true, decide_false, true_and, and_true, false_and, and_false, not_true_eq_false, not_false_eq_true, true_or, or_true, false_or, or_false, or_self, and_self, Classical.not_not] at h) <;> exact h
      · (try simp only [c0, c1, c2, if_true, if_false, ite_true, ite_false, decide_true, decide_false, true_and, and_true, false_and, and_false, not_true_eq_false, not_false_eq_true, true_or, or_true, false_or, or_false, or_self, and_self, Classical.not_not] at h) <;> exact h
theorem wfX12_wordAt {E : bw_E} {d : Nat} {w : bw_W} {Q : Int32 → bw_W → Prop} {a0 : Bool} {a1 : Int32} {a2 : Int32} {a3 : Int32}  (h : ((a0 = false → Q ((0 + (3 * ((2 * a1) + a2))) + a3) w) ∧ (a0 = true → Q ((24 + (3 * ((2 * a1) + a2))) + a3) w))) : bw_ri E (d + 1) mX12_wordAt [.int (bw_b a0), .int a1, .int a2, .int a3] w Q := by
  refine bw_enter rfl (Nat.le_of_ble_eq_true rfl) ?_
  refine bw_iload_n (i := 0) dX12_wordAt_0 rfl rfl ?_
  refine bw_ifb_eq (tgt := 9) dX12_wordAt_1 (by decide) (fun c => ?_) (fun c => ?_)
  · replace h := h.1 (c)
    refine bw_iconst (v := 0) dX12_wordAt_9 (by decide) ?_
    refine bw_iconst (v := 3) dX12_wordAt_10 (by decide) ?_
    refine bw_iload_n (i := 1) dX12_wordAt_11 rfl rfl ?_
    refine bw_iload_n (i := 2) dX12_wordAt_12 rfl rfl ?_
    refine bw_cSi (As := [.int a1, .int a2]) (st := [.int 3, .int 0]) (Q' := (fun v w1 => ((2 * a1) + a2) = v ∧ w = w1)) cs_BentWordsModel_195 (fs_X12_formAt (d := d + 0) (a0 := a1) (a1 := a2)  ⟨rfl, rfl⟩) rfl rfl (Nat.le_of_ble_eq_true rfl) dX12_wordAt_13 (fun v w1 hv => ?_)
    obtain ⟨rfl, rfl⟩ := hv
    refine bw_imul dX12_wordAt_16 ?_
    refine bw_iadd dX12_wordAt_17 ?_
    refine bw_iload_n (i := 3) dX12_wordAt_18 rfl rfl ?_
    refine bw_iadd dX12_wordAt_19 ?_
    exact bw_ireturn dX12_wordAt_20 rfl rfl ⟨_, rfl, h⟩
  · replace h := h.2 (c)
    refine bw_bipush (v := 24) dX12_wordAt_4 (by decide) ?_
    refine bw_goto (tgt := 10) dX12_wordAt_6 (by decide) ?_
    refine bw_iconst (v := 3) dX12_wordAt_10 (by decide) ?_
    refine bw_iload_n (i := 1) dX12_wordAt_11 rfl rfl ?_
    refine bw_iload_n (i := 2) dX12_wordAt_12 rfl rfl ?_
    refine bw_cSi (As := [.int a1, .int a2]) (st := [.int 3, .int 24]) (Q' := (fun v w1 => ((2 * a1) + a2) = v ∧ w = w1)) cs_BentWordsModel_195 (fs_X12_formAt (d := d + 0) (a0 := a1) (a1 := a2)  ⟨rfl, rfl⟩) rfl rfl (Nat.le_of_ble_eq_true rfl) dX12_wordAt_13 (fun v w1 hv => ?_)
    obtain ⟨rfl, rfl⟩ := hv
    refine bw_imul dX12_wordAt_16 ?_
    refine bw_iadd dX12_wordAt_17 ?_
    refine bw_iload_n (i := 3) dX12_wordAt_18 rfl rfl ?_
    refine bw_iadd dX12_wordAt_19 ?_
    exact bw_ireturn dX12_wordAt_20 rfl rfl ⟨_, rfl, h⟩
def vX12_wordAt (a0 : Bool) (a1 : Int32) (a2 : Int32) (a3 : Int32) : Int32 := (if a0 = false then ((0 + (3 * ((2 * a1) + a2))) + a3) else ((24 + (3 * ((2 * a1) + a2))) + a3))
theorem fs_X12_wordAt {E : bw_E} {d : Nat} {w : bw_W} {Q : Int32 → bw_W → Prop} {a0 : Bool} {a1 : Int32} {a2 : Int32} {a3 : Int32}   (h : Q (vX12_wordAt a0 a1 a2 a3) w) : bw_ri E (d + 1) mX12_wordAt [.int (bw_b a0), .int a1, .int a2, .int a3] w Q := by
  refine wfX12_wordAt  ?_
  refine ⟨fun c0 => ?_, fun c0 => ?_⟩
  · (try simp only [vX12_wordAt, c0, if_true, if_false, ite_true, ite_false, decide_true, decide_false, true_and, and_true, false_and, and_false, not_true_eq_false, not_false_eq_true, true_or, or_true, false_or, or_false, or_self, and_self, Classical.not_not] at h) <;> exact h
  · (try simp only [vX12_wordAt, c0, if_true, if_false, ite_true, ite_false, decide_true, decide_false, true_and, and_true, false_and, and_false, not_true_eq_false, not_false_eq_true, true_or, or_true, false_or, or_false, or_self, and_self, Classical.not_not] at h) <;> exact h
theorem wfX12_sortHere {E : bw_E} {d : Nat} {w : bw_W} {Q : Int32 → bw_W → Prop}   (h : ((¬ (gw_i w 50 4) = 1 → (((gw_i w 50 4) = 3 → (((gw_i w 50 8) = 33 → Q 6 w) ∧ ((gw_i w 50 8) = 35 → Q 1 w) ∧ ((gw_i w 50 8) = 36 → Q 4 w) ∧ ((gw_i w 50 8) = 37 → Q 3 w) ∧ ((gw_i w 50 8) = 61 → Q 5 w) ∧ ((gw_i w 50 8) = 64 → Q 2 w) ∧ (¬ (gw_i w 50 8) = 33 → ¬ (gw_i w 50 8) = 35 → ¬ (gw_i w 50 8) = 36 → ¬ (gw_i w 50 8) = 37 → ¬ (gw_i w 50 8) = 61 → ¬ (gw_i w 50 8) = 64 → Q (-1) w))) ∧ (¬ ((gw_i w 50 4) = 3) → Q (-1) w))) ∧ ((gw_i w 50 4) = 1 → ((¬ (((gw_i w 50 4) = 1) ∧ (¬ (8 < (gw_i w 50 9)))) → Q (-1) w) ∧ (((gw_i w 50 4) = 1) ∧ (¬ (8 < (gw_i w 50 9))) → Q 0 w))))) : bw_ri E (d + 1) mX12_sortHere [.ref 50] w Q := by
  refine bw_enter rfl (Nat.le_of_ble_eq_true rfl) ?_
  refine bw_aload_n (i := 0) dX12_sortHere_0 rfl rfl ?_
  refine bw_geti fg_BentWordsModel_126 rfl dX12_sortHere_1 ?_
  refine bw_iconst (v := 1) dX12_sortHere_4 (by decide) ?_
  refine bw_icmp_ne (tgt := 21) dX12_sortHere_5 (by decide) (fun c => ?_) (fun c => ?_)
  · replace h := h.1 (c)
    refine bw_aload_n (i := 0) dX12_sortHere_21 rfl rfl ?_
    refine bw_geti fg_BentWordsModel_126 rfl dX12_sortHere_22 ?_
    refine bw_iconst (v := 3) dX12_sortHere_25 (by decide) ?_
    refine bw_icmp_eq (tgt := 31) dX12_sortHere_26 (by decide) (fun c => ?_) (fun c => ?_)
    · replace h := h.1 (c)
      refine bw_aload_n (i := 0) dX12_sortHere_31 rfl rfl ?_
      refine bw_geti fg_BentWordsModel_147 rfl dX12_sortHere_32 ?_
      by_cases c0 : (gw_i w 50 8) = 33
      · refine bw_lookE (off := 67) (tgt := 102) (v := 33) dX12_sortHere_35 c0 (by decide) (by decide) (by decide) ?_
        replace h := h.1 c0
        refine bw_bipush (v := 6) dX12_sortHere_102 (by decide) ?_
        exact bw_ireturn dX12_sortHere_104 rfl rfl ⟨_, rfl, h⟩
      by_cases c1 : (gw_i w 50 8) = 35
      · refine bw_lookE (off := 57) (tgt := 92) (v := 35) dX12_sortHere_35 c1 (by decide) (by decide) (by decide) ?_
        replace h := h.2.1 c1
        refine bw_iconst (v := 1) dX12_sortHere_92 (by decide) ?_
        exact bw_ireturn dX12_sortHere_93 rfl rfl ⟨_, rfl, h⟩
      by_cases c2 : (gw_i w 50 8) = 36
      · refine bw_lookE (off := 63) (tgt := 98) (v := 36) dX12_sortHere_35 c2 (by decide) (by decide) (by decide) ?_
        replace h := h.2.2.1 c2
        refine bw_iconst (v := 4) dX12_sortHere_98 (by decide) ?_
        exact bw_ireturn dX12_sortHere_99 rfl rfl ⟨_, rfl, h⟩
      by_cases c3 : (gw_i w 50 8) = 37
      · refine bw_lookE (off := 61) (tgt := 96) (v := 37) dX12_sortHere_35 c3 (by decide) (by decide) (by decide) ?_
        replace h := h.2.2.2.1 c3
        refine bw_iconst (v := 3) dX12_sortHere_96 (by decide) ?_
        exact bw_ireturn dX12_sortHere_97 rfl rfl ⟨_, rfl, h⟩
      by_cases c4 : (gw_i w 50 8) = 61
      · refine bw_lookE (off := 65) (tgt := 100) (v := 61) dX12_sortHere_35 c4 (by decide) (by decide) (by decide) ?_
        replace h := h.2.2.2.2.1 c4
        refine bw_iconst (v := 5) dX12_sortHere_100 (by decide) ?_
        exact bw_ireturn dX12_sortHere_101 rfl rfl ⟨_, rfl, h⟩
      by_cases c5 : (gw_i w 50 8) = 64
      · refine bw_lookE (off := 59) (tgt := 94) (v := 64) dX12_sortHere_35 c5 (by decide) (by decide) (by decide) ?_
        replace h := h.2.2.2.2.2.1 c5
        refine bw_iconst (v := 2) dX12_sortHere_94 (by decide) ?_
        exact bw_ireturn dX12_sortHere_95 rfl rfl ⟨_, rfl, h⟩
      refine bw_lookD (tgt := 105) dX12_sortHere_35 (by decide) ?_ (by decide) ?_
      · intro q hq
        simp only [List.mem_cons, List.mem_nil_iff, or_false] at hq
        rcases hq with rfl | rfl | rfl | rfl | rfl | rfl <;> first | exact bw_nei c0 (by decide) | exact bw_nei c1 (by decide) | exact bw_nei c2 (by decide) | exact bw_nei c3 (by decide) | exact bw_nei c4 (by decide) | exact bw_nei c5 (by decide)
      · replace h := h.2.2.2.2.2.2 c0 c1 c2 c3 c4 c5
        refine bw_iconst (v := (-1)) dX12_sortHere_105 (by decide) ?_
        exact bw_ireturn dX12_sortHere_106 rfl rfl ⟨_, rfl, h⟩
    · replace h := h.2 (c)
      refine bw_iconst (v := (-1)) dX12_sortHere_29 (by decide) ?_
      exact bw_ireturn dX12_sortHere_30 rfl rfl ⟨_, rfl, h⟩
  · replace h := h.2 (c)
    refine bw_aload_n (i := 0) dX12_sortHere_8 rfl rfl ?_
    refine bw_cVb (As := []) (st := []) (Q' := (fun v w1 => (decide (((gw_i w 50 4) = 1) ∧ (¬ (8 < (gw_i w 50 9))))) = v ∧ w = w1)) cv_BentWordsModel_163 rfl rfl (fs_X12_isGood (d := d + 0)   ⟨rfl, rfl⟩) rfl rfl (Nat.le_of_ble_eq_true rfl) dX12_sortHere_9 (fun v w1 hv => ?_)
    obtain ⟨rfl, rfl⟩ := hv
    refine bw_ifb_eq (tgt := 19) dX12_sortHere_12 (by decide) (fun c => ?_) (fun c => ?_)
    · replace h := h.1 (of_decide_eq_false c)
      refine bw_iconst (v := (-1)) dX12_sortHere_19 (by decide) ?_
      exact bw_ireturn dX12_sortHere_20 rfl rfl ⟨_, rfl, h⟩
    · replace h := h.2 (of_decide_eq_true c)
      refine bw_iconst (v := 0) dX12_sortHere_15 (by decide) ?_
      refine bw_goto (tgt := 20) dX12_sortHere_16 (by decide) ?_
      exact bw_ireturn dX12_sortHere_20 rfl rfl ⟨_, rfl, h⟩
theorem wfX12_isNoun {E : bw_E} {d : Nat} {w : bw_W} {Q : Bool → bw_W → Prop} {a0 : Int32}  (h : Q (decide ((¬ (a0 < 0)) ∧ (¬ (((gw_i w 50 34) - 1) < a0)))) w) : bw_rb E (d + 1) mX12_isNoun [.ref 50, .int a0] w Q := by
  refine bw_enter rfl (Nat.le_of_ble_eq_true rfl) ?_
  refine bw_iload_n (i := 1) dX12_isNoun_0 rfl rfl ?_
  refine bw_iconst (v := 0) dX12_isNoun_1 (by decide) ?_
  refine bw_aload_n (i := 0) dX12_isNoun_2 rfl rfl ?_
  refine bw_geti fg_BentWordsModel_269 rfl dX12_isNoun_3 ?_
  refine bw_iconst (v := 1) dX12_isNoun_6 (by decide) ?_
  refine bw_isub dX12_isNoun_7 ?_
  refine bw_cSb (As := [.int a0, .int 0, .int ((gw_i w 50 34) - 1)]) (st := []) (Q' := (fun v w1 => (decide ((¬ (a0 < 0)) ∧ (¬ (((gw_i w 50 34) - 1) < a0)))) = v ∧ w = w1)) cs_BentWordsModel_100 (fs_X12_in (d := d + 0) (a0 := a0) (a1 := 0) (a2 := ((gw_i w 50 34) - 1))  ⟨rfl, rfl⟩) rfl rfl (Nat.le_of_ble_eq_true rfl) dX12_isNoun_8 (fun v w1 hv => ?_)
  obtain ⟨rfl, rfl⟩ := hv
  exact bw_ireturn dX12_isNoun_11 rfl (bw_nb _) ⟨_, rfl, h⟩
theorem fs_X12_isNoun {E : bw_E} {d : Nat} {w : bw_W} {Q : Bool → bw_W → Prop} {a0 : Int32}   (h : Q (decide ((¬ (a0 < 0)) ∧ (¬ (((gw_i w 50 34) - 1) < a0)))) w) : bw_rb E (d + 1) mX12_isNoun [.ref 50, .int a0] w Q := by
  refine wfX12_isNoun  ?_
  exact h
theorem wfX12_isMessage {E : bw_E} {d : Nat} {w : bw_W} {Q : Bool → bw_W → Prop} {a0 : Int32}  (h : ((¬ (¬ ((gw_i w 50 34) ≤ 0)) → Q false w) ∧ ((¬ ((gw_i w 50 34) ≤ 0)) → ((¬ ((¬ (a0 < 0)) ∧ (¬ (((gw_i w 50 35) - 1) < a0))) → Q false w) ∧ ((¬ (a0 < 0)) ∧ (¬ (((gw_i w 50 35) - 1) < a0)) → Q true w))))) : bw_rb E (d + 1) mX12_isMessage [.ref 50, .int a0] w Q := by
  refine bw_enter rfl (Nat.le_of_ble_eq_true rfl) ?_
  refine bw_aload_n (i := 0) dX12_isMessage_0 rfl rfl ?_
  refine bw_cVb (As := []) (st := []) (Q' := (fun v w1 => (decide (¬ ((gw_i w 50 34) ≤ 0))) = v ∧ w = w1)) cv_BentWordsModel_272 rfl rfl (fs_X12_isLexicon (d := d + 0)   ⟨rfl, rfl⟩) rfl rfl (Nat.le_of_ble_eq_true rfl) dX12_isMessage_1 (fun v w1 hv => ?_)
  obtain ⟨rfl, rfl⟩ := hv
  refine bw_ifb_eq (tgt := 25) dX12_isMessage_4 (by decide) (fun c => ?_) (fun c => ?_)
  · replace h := h.1 (of_decide_eq_false c)
    refine bw_iconst (v := 0) dX12_isMessage_25 (by decide) ?_
    exact bw_ireturn dX12_isMessage_26 rfl (bw_nb false) ⟨false, rfl, h⟩
  · replace h := h.2 (of_decide_eq_true c)
    refine bw_iload_n (i := 1) dX12_isMessage_7 rfl rfl ?_
    refine bw_iconst (v := 0) dX12_isMessage_8 (by decide) ?_
    refine bw_aload_n (i := 0) dX12_isMessage_9 rfl rfl ?_
    refine bw_geti fg_BentWordsModel_275 rfl dX12_isMessage_10 ?_
    refine bw_iconst (v := 1) dX12_isMessage_13 (by decide) ?_
    refine bw_isub dX12_isMessage_14 ?_
    refine bw_cSb (As := [.int a0, .int 0, .int ((gw_i w 50 35) - 1)]) (st := []) (Q' := (fun v w1 => (decide ((¬ (a0 < 0)) ∧ (¬ (((gw_i w 50 35) - 1) < a0)))) = v ∧ w = w1)) cs_BentWordsModel_100 (fs_X12_in (d := d + 0) (a0 := a0) (a1 := 0) (a2 := ((gw_i w 50 35) - 1))  ⟨rfl, rfl⟩) rfl rfl (Nat.le_of_ble_eq_true rfl) dX12_isMessage_15 (fun v w1 hv => ?_)
    obtain ⟨rfl, rfl⟩ := hv
    refine bw_ifb_eq (tgt := 25) dX12_isMessage_18 (by decide) (fun c => ?_) (fun c => ?_)
    · replace h := h.1 (of_decide_eq_false c)
      refine bw_iconst (v := 0) dX12_isMessage_25 (by decide) ?_
      exact bw_ireturn dX12_isMessage_26 rfl (bw_nb false) ⟨false, rfl, h⟩
    · replace h := h.2 (of_decide_eq_true c)
      refine bw_iconst (v := 1) dX12_isMessage_21 (by decide) ?_
      refine bw_goto (tgt := 26) dX12_isMessage_22 (by decide) ?_
      exact bw_ireturn dX12_isMessage_26 rfl (bw_nb true) ⟨true, rfl, h⟩
theorem fs_X12_isMessage {E : bw_E} {d : Nat} {w : bw_W} {Q : Bool → bw_W → Prop} {a0 : Int32}   (h : Q (decide ((¬ ((gw_i w 50 34) ≤ 0)) ∧ ((¬ (a0 < 0)) ∧ (¬ (((gw_i w 50 35) - 1) < a0))))) w) : bw_rb E (d + 1) mX12_isMessage [.ref 50, .int a0] w Q := by
  refine wfX12_isMessage  ?_
  refine ⟨fun c0 => ?_, fun c0 => ?_⟩
  · (try simp only [c0, if_true, if_false, ite_true, ite_false, decide_true, decide_false, true_and, and_true, false_and, and_false, not_true_eq_false, not_false_eq_true, true_or, or_true, false_or, or_false, or_self, and_self, Classical.not_not] at h) <;> exact h
  · refine ⟨fun c1 => ?_, fun c1 => ?_⟩
    · (try simp only [c0, c1, if_true, if_false, ite_true, ite_false, decide_true, decide_false, true_and, and_true, false_and, and_false, not_true_eq_false, not_false_eq_true, true_or, or_true, false_or, or_false, or_self, and_self, Classical.not_not] at h) <;> exact h
    · (try simp only [c0, c1, if_true, if_false, ite_true, ite_false, decide_true, decide_false, true_and, and_true, false_and, and_false, not_true_eq_false, not_false_eq_true, true_or, or_true, false_or, or_false, or_self, and_self, Classical.not_not] at h) <;> exact h
theorem wfX12_isHole {E : bw_E} {d : Nat} {w : bw_W} {Q : Bool → bw_W → Prop} {a0 : Int32}  (h : ((¬ (¬ ((gw_i w 50 34) ≤ 0)) → Q false w) ∧ ((¬ ((gw_i w 50 34) ≤ 0)) → ((¬ ((¬ (a0 < 0)) ∧ (¬ (2 < a0))) → Q false w) ∧ ((¬ (a0 < 0)) ∧ (¬ (2 < a0)) → Q true w))))) : bw_rb E (d + 1) mX12_isHole [.ref 50, .int a0] w Q := by
  refine bw_enter rfl (Nat.le_of_ble_eq_true rfl) ?_
  refine bw_aload_n (i := 0) dX12_isHole_0 rfl rfl ?_
  refine bw_cVb (As := []) (st := []) (Q' := (fun v w1 => (decide (¬ ((gw_i w 50 34) ≤ 0))) = v ∧ w = w1)) cv_BentWordsModel_272 rfl rfl (fs_X12_isLexicon (d := d + 0)   ⟨rfl, rfl⟩) rfl rfl (Nat.le_of_ble_eq_true rfl) dX12_isHole_1 (fun v w1 hv => ?_)
  obtain ⟨rfl, rfl⟩ := hv
  refine bw_ifb_eq (tgt := 20) dX12_isHole_4 (by decide) (fun c => ?_) (fun c => ?_)
  · replace h := h.1 (of_decide_eq_false c)
    refine bw_iconst (v := 0) dX12_isHole_20 (by decide) ?_
    exact bw_ireturn dX12_isHole_21 rfl (bw_nb false) ⟨false, rfl, h⟩
  · replace h := h.2 (of_decide_eq_true c)
    refine bw_iload_n (i := 1) dX12_isHole_7 rfl rfl ?_
    refine bw_iconst (v := 0) dX12_isHole_8 (by decide) ?_
    refine bw_iconst (v := 2) dX12_isHole_9 (by decide) ?_
    refine bw_cSb (As := [.int a0, .int 0, .int 2]) (st := []) (Q' := (fun v w1 => (decide ((¬ (a0 < 0)) ∧ (¬ (2 < a0)))) = v ∧ w = w1)) cs_BentWordsModel_100 (fs_X12_in (d := d + 0) (a0 := a0) (a1 := 0) (a2 := 2)  ⟨rfl, rfl⟩) rfl rfl (Nat.le_of_ble_eq_true rfl) dX12_isHole_10 (fun v w1 hv => ?_)
    obtain ⟨rfl, rfl⟩ := hv
    refine bw_ifb_eq (tgt := 20) dX12_isHole_13 (by decide) (fun c => ?_) (fun c => ?_)
    · replace h := h.1 (of_decide_eq_false c)
      refine bw_iconst (v := 0) dX12_isHole_20 (by decide) ?_
      exact bw_ireturn dX12_isHole_21 rfl (bw_nb false) ⟨false, rfl, h⟩
    · replace h := h.2 (of_decide_eq_true c)
      refine bw_iconst (v := 1) dX12_isHole_16 (by decide) ?_
      refine bw_goto (tgt := 21) dX12_isHole_17 (by decide) ?_
      exact bw_ireturn dX12_isHole_21 rfl (bw_nb true) ⟨true, rfl, h⟩
theorem fs_X12_isHole {E : bw_E} {d : Nat} {w : bw_W} {Q : Bool → bw_W → Prop} {a0 : Int32}   (h : Q (decide ((¬ ((gw_i w 50 34) ≤ 0)) ∧ ((¬ (a0 < 0)) ∧ (¬ (2 < a0))))) w) : bw_rb E (d + 1) mX12_isHole [.ref 50, .int a0] w Q := by
  refine wfX12_isHole  ?_
  refine ⟨fun c0 => ?_, fun c0 => ?_⟩
  · (try simp only [c0, if_true, if_false, ite_true, ite_false, decide_true, decide_false, true_and, and_true, false_and, and_false, not_true_eq_false, not_false_eq_true, true_or, or_true, false_or, or_false, or_self, and_self, Classical.not_not] at h) <;> exact h
  · refine ⟨fun c1 => ?_, fun c1 => ?_⟩
    · (try simp only [c0, c1, if_true, if_false, ite_true, ite_false, decide_true, decide_false, true_and, and_true, false_and, and_false, not_true_eq_false, not_false_eq_true, true_or, or_true, false_or, or_false, or_self, and_self, Classical.not_not] at h) <;> exact h
    · (try simp only [c0, c1, if_true, if_false, ite_true, ite_false, decide_true, decide_false, true_and, and_true, false_and, and_false, not_true_eq_false, not_false_eq_true, true_or, or_true, false_or, or_false, or_self, and_self, Classical.not_not] at h) <;> exact h
theorem wfX12_numberIn {E : bw_E} {d : Nat} {w : bw_W} {Q : Int32 → bw_W → Prop} {a0 : Int32}  (h : (((vp_in ((1 + (2 * a0)) + 1) 236))) ∧
((¬ (vX12_countIn w a0) = 1 → Q 1 w) ∧ ((vX12_countIn w a0) = 1 → Q 0 w))) : bw_ri E (d + 1) mX12_numberIn [.ref 50, .int a0] w Q := by
  refine bw_enter rfl (Nat.le_of_ble_eq_true rfl) ?_
  refine bw_aload_n (i := 0) dX12_numberIn_0 rfl rfl ?_
  refine bw_iload_n (i := 1) dX12_numberIn_1 rfl rfl ?_
  obtain ⟨hc1, h⟩ := h
  refine bw_cVi (As := [.int a0]) (st := []) (Q' := (fun v w1 => (vX12_countIn w a0) = v ∧ w = w1)) cv_BentWordsModel_278 rfl rfl (fs_X12_countIn (d := d + 0) (a0 := a0) hc1 ⟨rfl, rfl⟩) rfl rfl (Nat.le_of_ble_eq_true rfl) dX12_numberIn_2 (fun v w1 hv => ?_)
  obtain ⟨rfl, rfl⟩ := hv
  refine bw_iconst (v := 1) dX12_numberIn_5 (by decide) ?_
  refine bw_icmp_ne (tgt := 13) dX12_numberIn_6 (by decide) (fun c => ?_) (fun c => ?_)
  · replace h := h.1 (c)
    refine bw_iconst (v := 1) dX12_numberIn_13 (by decide) ?_
    exact bw_ireturn dX12_numberIn_14 rfl rfl ⟨_, rfl, h⟩
  · replace h := h.2 (c)
    refine bw_iconst (v := 0) dX12_numberIn_9 (by decide) ?_
    refine bw_goto (tgt := 14) dX12_numberIn_10 (by decide) ?_
    exact bw_ireturn dX12_numberIn_14 rfl rfl ⟨_, rfl, h⟩
def vX12_numberIn (w : bw_W) (a0 : Int32) : Int32 := (if ¬ (vX12_countIn w a0) = 1 then 1 else 0)
theorem fs_X12_numberIn {E : bw_E} {d : Nat} {w : bw_W} {Q : Int32 → bw_W → Prop} {a0 : Int32}  (hc0 : (((vp_in ((1 + (2 * a0)) + 1) 236)))) (h : Q (vX12_numberIn w a0) w) : bw_ri E (d + 1) mX12_numberIn [.ref 50, .int a0] w Q := by
  refine wfX12_numberIn  ?_
  refine ⟨hc0 , ?_⟩
  refine ⟨fun c0 => ?_, fun c0 => ?_⟩
  · (try simp only [vX12_numberIn, c0, if_true, if_false, ite_true, ite_false, decide_true, decide_false, true_and, and_true, false_and, and_false, not_true_eq_false, not_false_eq_true, true_or, or_true, false_or, or_false, or_self, and_self, Classical.not_not] at h) <;> exact h
  · (try simp only [vX12_numberIn, c0, if_true, if_false, ite_true, ite_false, decide_true, decide_false, true_and, and_true, false_and, and_false, not_true_eq_false, not_false_eq_true, true_or, or_true, false_or, or_false, or_self, and_self, Classical.not_not] at h) <;> exact h
theorem wfX12_told {E : bw_E} {d : Nat} {w : bw_W} {Q : Int64 → bw_W → Prop} {a0 : Int32} {a1 : Int32} {a2 : Int32}  (h : (vp_in ((7 + (8 * a0)) + ((2 * a1) + a2)) 236) ∧
Q (gw_l w 63 (((7 + (8 * a0)) + ((2 * a1) + a2)).toNatClampNeg)) w) : bw_rl E (d + 1) mX12_told [.ref 50, .int a0, .int a1, .int a2] w Q := by
  refine bw_enter rfl (Nat.le_of_ble_eq_true rfl) ?_
  refine bw_aload_n (i := 0) dX12_told_0 rfl rfl ?_
  refine bw_getr (r := 63) fg_BentWordsModel_47 rfl rfl dX12_told_1 ?_
  refine bw_bipush (v := 7) dX12_told_4 (by decide) ?_
  refine bw_bipush (v := 8) dX12_told_6 (by decide) ?_
  refine bw_iload_n (i := 1) dX12_told_8 rfl rfl ?_
  refine bw_imul dX12_told_9 ?_
  refine bw_iadd dX12_told_10 ?_
  refine bw_iload_n (i := 2) dX12_told_11 rfl rfl ?_
  refine bw_iload_n (i := 3) dX12_told_12 rfl rfl ?_
  refine bw_cSi (As := [.int a1, .int a2]) (st := [.int (7 + (8 * a0)), .ref 63]) (Q' := (fun v w1 => ((2 * a1) + a2) = v ∧ w = w1)) cs_BentWordsModel_195 (fs_X12_formAt (d := d + 0) (a0 := a1) (a1 := a2)  ⟨rfl, rfl⟩) rfl rfl (Nat.le_of_ble_eq_true rfl) dX12_told_13 (fun v w1 hv => ?_)
  obtain ⟨rfl, rfl⟩ := hv
  refine bw_iadd dX12_told_16 ?_
  obtain ⟨hi1, h⟩ := h
  refine bw_laload rfl hi1 dX12_told_17 ?_
  exact bw_lreturn dX12_told_18 rfl ⟨_, rfl, h⟩
def vX12_told (w : bw_W) (a0 : Int32) (a1 : Int32) (a2 : Int32) : Int64 := (gw_l w 63 (((7 + (8 * a0)) + ((2 * a1) + a2)).toNatClampNeg))
theorem fs_X12_told {E : bw_E} {d : Nat} {w : bw_W} {Q : Int64 → bw_W → Prop} {a0 : Int32} {a1 : Int32} {a2 : Int32}  (hc0 : (vp_in ((7 + (8 * a0)) + ((2 * a1) + a2)) 236)) (h : Q (vX12_told w a0 a1 a2) w) : bw_rl E (d + 1) mX12_told [.ref 50, .int a0, .int a1, .int a2] w Q := by
  refine wfX12_told  ?_
  refine ⟨hc0 , ?_⟩
  exact h
theorem wfX12_letterOf_10 {E : bw_E} {d : Nat} {w : bw_W} {Q : Int32 → bw_W → Prop} {l0 : Int64} {l2 : Int32} {l3 : Int64} {l5 : Int32}  (h : ((l5 ≤ l2 → Q ((97 + ((l3 - l3 / 27 * 27).toInt32)) - 1) w) ∧ (¬ (l5 ≤ l2) → bw_G E (d + 1) mX12_letterOf 10 [some (.long l0), none, some (.int l2), some (.long (l3 / 27)), none, some (.int (l5 + (-1)))] [] w (bw_qi Q)))) : bw_G E (d + 1) mX12_letterOf 10 [some (.long l0), none, some (.int l2), some (.long l3), none, some (.int l5)] [] w (bw_qi Q) := by
  refine bw_iload dX12_letterOf_10 rfl ?_
  refine bw_iload_n (i := 2) dX12_letterOf_12 rfl rfl ?_
  refine bw_icmp_le (tgt := 28) dX12_letterOf_13 (by decide) (fun c => ?_) (fun c => ?_)
  · replace h := h.1 (c)
    refine bw_bipush (v := 97) dX12_letterOf_28 (by decide) ?_
    refine bw_lload_n (i := 3) dX12_letterOf_30 rfl rfl ?_
    refine bw_ldc2 kl_BentWordsModel_122 dX12_letterOf_31 ?_
    refine bw_lrem dX12_letterOf_34 (by decide) ?_
    refine bw_l2i dX12_letterOf_35 ?_
    refine bw_iadd dX12_letterOf_36 ?_
    refine bw_iconst (v := 1) dX12_letterOf_37 (by decide) ?_
    refine bw_isub dX12_letterOf_38 ?_
    exact bw_ireturn dX12_letterOf_39 rfl rfl ⟨_, rfl, h⟩
  · replace h := h.2 (c)
    refine bw_lload_n (i := 3) dX12_letterOf_16 rfl rfl ?_
    refine bw_ldc2 kl_BentWordsModel_122 dX12_letterOf_17 ?_
    refine bw_ldiv dX12_letterOf_20 (by decide) ?_
    refine bw_lstore_n (i := 3) (L' := [some (.long l0), none, some (.int l2), some (.long (l3 / 27)), none, some (.int l5)]) dX12_letterOf_21 rfl (Nat.le_of_ble_eq_true rfl) rfl ?_
    refine bw_iinc (i := 5) (x := l5) (v := (l5 + (-1))) (L' := [some (.long l0), none, some (.int l2), some (.long (l3 / 27)), none, some (.int (l5 + (-1)))]) dX12_letterOf_22 rfl rfl (Nat.le_of_ble_eq_true rfl) rfl ?_
    refine bw_goto (tgt := 10) dX12_letterOf_25 (by decide) ?_
    exact h
theorem wfX12_letterOf {E : bw_E} {d : Nat} {w : bw_W} {Q : Int32 → bw_W → Prop} {a0 : Int64} {a1 : Int32}  (h : (∃ Q1 : Int32 → bw_W → Prop, bw_ri E (d + 0) mX12_lettersOf [.long a0] w Q1 ∧ ∀ v2 w3, Q1 v2 w3 →
bw_G E (d + 1) mX12_letterOf 10 [some (.long a0), none, some (.int a1), some (.long a0), none, some (.int (v2 - 1))] [] w3 (bw_qi Q))) : bw_ri E (d + 1) mX12_letterOf [.long a0, .int a1] w Q := by
  refine bw_enter rfl (Nat.le_of_ble_eq_true rfl) ?_
  refine bw_lload_n (i := 0) dX12_letterOf_0 rfl rfl ?_
  refine bw_lstore_n (i := 3) (L' := [some (.long a0), none, some (.int a1), some (.long a0), none, none]) dX12_letterOf_1 rfl (Nat.le_of_ble_eq_true rfl) rfl ?_
  refine bw_lload_n (i := 0) dX12_letterOf_2 rfl rfl ?_
  obtain ⟨Q1, hr, h⟩ := h
  refine bw_cSi (As := [.long a0]) (st := []) cs_BentWordsModel_304 hr rfl rfl (Nat.le_of_ble_eq_true rfl) dX12_letterOf_3 (fun v2 w3 hv => ?_)
  replace h := h v2 w3 hv
  clear hr
  refine bw_iconst (v := 1) dX12_letterOf_6 (by decide) ?_
  refine bw_isub dX12_letterOf_7 ?_
  refine bw_istore (i := 5) (L' := [some (.long a0), none, some (.int a1), some (.long a0), none, some (.int (v2 - 1))]) dX12_letterOf_8 (Nat.le_of_ble_eq_true rfl) rfl ?_
  exact h
theorem wfX12_gap {E : bw_E} {d : Nat} {w : bw_W} {Q : bw_W → Prop}   (h : (((gw_i w 50 37) ≤ 0 → Q w) ∧ (¬ ((gw_i w 50 37) ≤ 0) → (((vp_in (gw_i w 50 37) 200))) ∧
Q (sw_i (sw_i w 71 ((gw_i w 50 37).toNatClampNeg) 32) 50 37 ((gw_i w 50 37) + 1))))) : bw_rv E (d + 1) mX12_gap [.ref 50] w Q := by
  refine bw_enter rfl (Nat.le_of_ble_eq_true rfl) ?_
  refine bw_aload_n (i := 0) dX12_gap_0 rfl rfl ?_
  refine bw_geti fg_BentWordsModel_308 rfl dX12_gap_1 ?_
  refine bw_if_le (tgt := 13) dX12_gap_4 (by decide) (fun c => ?_) (fun c => ?_)
  · replace h := h.1 (c)
    exact bw_return dX12_gap_13 rfl ⟨rfl, h⟩
  · replace h := h.2 (c)
    refine bw_aload_n (i := 0) dX12_gap_7 rfl rfl ?_
    refine bw_bipush (v := 32) dX12_gap_8 (by decide) ?_
    obtain ⟨hc1, h⟩ := h
    refine bw_cVv (As := [.int 32]) (st := []) (Q' := (fun w1 => (sw_i (sw_i w 71 ((gw_i w 50 37).toNatClampNeg) 32) 50 37 ((gw_i w 50 37) + 1)) = w1)) cv_BentWordsModel_311 rfl rfl (fs_X12_says (d := d + 0) (a0 := 32) hc1 rfl) rfl rfl (Nat.le_of_ble_eq_true rfl) dX12_gap_10 (fun w1 hv => ?_)
    subst hv
    exact bw_return dX12_gap_13 rfl ⟨rfl, h⟩
theorem wfX12_isForm {E : bw_E} {d : Nat} {w : bw_W} {Q : Bool → bw_W → Prop} {a0 : Int32} {a1 : Int32}  (h : ((¬ ((¬ (a0 < 0)) ∧ (¬ (3 < a0))) → Q false w) ∧ ((¬ (a0 < 0)) ∧ (¬ (3 < a0)) → ((¬ ((¬ (a1 < 0)) ∧ (¬ (1 < a1))) → Q false w) ∧ ((¬ (a1 < 0)) ∧ (¬ (1 < a1)) → Q true w))))) : bw_rb E (d + 1) mX12_isForm [.int a0, .int a1] w Q := by
  refine bw_enter rfl (Nat.le_of_ble_eq_true rfl) ?_
  refine bw_iload_n (i := 0) dX12_isForm_0 rfl rfl ?_
  refine bw_iconst (v := 0) dX12_isForm_1 (by decide) ?_
  refine bw_iconst (v := 3) dX12_isForm_2 (by decide) ?_
  refine bw_cSb (As := [.int a0, .int 0, .int 3]) (st := []) (Q' := (fun v w1 => (decide ((¬ (a0 < 0)) ∧ (¬ (3 < a0)))) = v ∧ w = w1)) cs_BentWordsModel_100 (fs_X12_in (d := d + 0) (a0 := a0) (a1 := 0) (a2 := 3)  ⟨rfl, rfl⟩) rfl rfl (Nat.le_of_ble_eq_true rfl) dX12_isForm_3 (fun v w1 hv => ?_)
  obtain ⟨rfl, rfl⟩ := hv
  refine bw_ifb_eq (tgt := 22) dX12_isForm_6 (by decide) (fun c => ?_) (fun c => ?_)
  · replace h := h.1 (of_decide_eq_false c)
    refine bw_iconst (v := 0) dX12_isForm_22 (by decide) ?_
    exact bw_ireturn dX12_isForm_23 rfl (bw_nb false) ⟨false, rfl, h⟩
  · replace h := h.2 (of_decide_eq_true c)
    refine bw_iload_n (i := 1) dX12_isForm_9 rfl rfl ?_
    refine bw_iconst (v := 0) dX12_isForm_10 (by decide) ?_
    refine bw_iconst (v := 1) dX12_isForm_11 (by decide) ?_
    refine bw_cSb (As := [.int a1, .int 0, .int 1]) (st := []) (Q' := (fun v w1 => (decide ((¬ (a1 < 0)) ∧ (¬ (1 < a1)))) = v ∧ w = w1)) cs_BentWordsModel_100 (fs_X12_in (d := d + 0) (a0 := a1) (a1 := 0) (a2 := 1)  ⟨rfl, rfl⟩) rfl rfl (Nat.le_of_ble_eq_true rfl) dX12_isForm_12 (fun v w1 hv => ?_)
    obtain ⟨rfl, rfl⟩ := hv
    refine bw_ifb_eq (tgt := 22) dX12_isForm_15 (by decide) (fun c => ?_) (fun c => ?_)
    · replace h := h.1 (of_decide_eq_false c)
      refine bw_iconst (v := 0) dX12_isForm_22 (by decide) ?_
      exact bw_ireturn dX12_isForm_23 rfl (bw_nb false) ⟨false, rfl, h⟩
    · replace h := h.2 (of_decide_eq_true c)
      refine bw_iconst (v := 1) dX12_isForm_18 (by decide) ?_
      refine bw_goto (tgt := 23) dX12_isForm_19 (by decide) ?_
      exact bw_ireturn dX12_isForm_23 rfl (bw_nb true) ⟨true, rfl, h⟩
theorem fs_X12_isForm {E : bw_E} {d : Nat} {w : bw_W} {Q : Bool → bw_W → Prop} {a0 : Int32} {a1 : Int32}   (h : Q (decide (((¬ (a0 < 0)) ∧ (¬ (3 < a0))) ∧ ((¬ (a1 < 0)) ∧ (¬ (1 < a1))))) w) : bw_rb E (d + 1) mX12_isForm [.int a0, .int a1] w Q := by
  refine wfX12_isForm  ?_
  refine ⟨fun c0 => ?_, fun c0 => ?_⟩
  · (try simp only [c0, if_true, if_false, ite_true, ite_false, decide_true, decide_false, true_and, and_true, false_and, and_false, not_true_eq_false, not_false_eq_true, true_or, or_true, false_or, or_false, or_self, and_self, Classical.not_not] at h) <;> exact h
  · refine ⟨fun c1 => ?_, fun c1 => ?_⟩
    · (try simp only [c0, c1, if_true, if_false, ite_true, ite_false, decide_true, decide_false, true_and, and_true, false_and, and_false, not_true_eq_false, not_false_eq_true, true_or, or_true, false_or, or_false, or_self, and_self, Classical.not_not] at h) <;> exact h
    · (try simp only [c0, c1, if_true, if_false, ite_true, ite_false, decide_true, decide_false, true_and, and_true, false_and, and_false, not_true_eq_false, not_false_eq_true, true_or, or_true, false_or, or_false, or_self, and_self, Classical.not_not] at h) <;> exact h
theorem wfX12_emptiesNow {E : bw_E} {d : Nat} {w : bw_W} {Q : Int32 → bw_W → Prop} {a0 : Int32}  (h : (((vp_in (1 + (2 * a0)) 236))) ∧
(vp_in (1 + (2 * a0)) 236) ∧
(vp_in ((1 + (2 * a0)) + 1) 236) ∧
Q (vX12_nounIn w a0) (sw_l (sw_l w 63 ((1 + (2 * a0)).toNatClampNeg) (-1)) 63 (((1 + (2 * a0)) + 1).toNatClampNeg) 0)) : bw_ri E (d + 1) mX12_emptiesNow [.ref 50, .int a0] w Q := by
  refine bw_enter rfl (Nat.le_of_ble_eq_true rfl) ?_
  refine bw_aload_n (i := 0) dX12_emptiesNow_0 rfl rfl ?_
  refine bw_iload_n (i := 1) dX12_emptiesNow_1 rfl rfl ?_
  obtain ⟨hc1, h⟩ := h
  refine bw_cVi (As := [.int a0]) (st := []) (Q' := (fun v w1 => (vX12_nounIn w a0) = v ∧ w = w1)) cv_BentWordsModel_330 rfl rfl (fs_X12_nounIn (d := d + 0) (a0 := a0) hc1 ⟨rfl, rfl⟩) rfl rfl (Nat.le_of_ble_eq_true rfl) dX12_emptiesNow_2 (fun v w1 hv => ?_)
  obtain ⟨rfl, rfl⟩ := hv
  refine bw_istore_n (i := 2) (L' := [some (.ref 50), some (.int a0), some (.int (vX12_nounIn w a0))]) dX12_emptiesNow_5 rfl (Nat.le_of_ble_eq_true rfl) rfl ?_
  refine bw_aload_n (i := 0) dX12_emptiesNow_6 rfl rfl ?_
  refine bw_getr (r := 63) fg_BentWordsModel_47 rfl rfl dX12_emptiesNow_7 ?_
  refine bw_iconst (v := 1) dX12_emptiesNow_10 (by decide) ?_
  refine bw_iconst (v := 2) dX12_emptiesNow_11 (by decide) ?_
  refine bw_iload_n (i := 1) dX12_emptiesNow_12 rfl rfl ?_
  refine bw_imul dX12_emptiesNow_13 ?_
  refine bw_iadd dX12_emptiesNow_14 ?_
  refine bw_ldc2 kl_BentWordsModel_281 dX12_emptiesNow_15 ?_
  obtain ⟨hi2, h⟩ := h
  refine bw_lastore rfl hi2 dX12_emptiesNow_18 ?_
  refine bw_aload_n (i := 0) dX12_emptiesNow_19 rfl rfl ?_
  refine bw_getr (r := 63) fg_BentWordsModel_47 rfl rfl dX12_emptiesNow_20 ?_
  refine bw_iconst (v := 1) dX12_emptiesNow_23 (by decide) ?_
  refine bw_iconst (v := 2) dX12_emptiesNow_24 (by decide) ?_
  refine bw_iload_n (i := 1) dX12_emptiesNow_25 rfl rfl ?_
  refine bw_imul dX12_emptiesNow_26 ?_
  refine bw_iadd dX12_emptiesNow_27 ?_
  refine bw_iconst (v := 1) dX12_emptiesNow_28 (by decide) ?_
  refine bw_iadd dX12_emptiesNow_29 ?_
  refine bw_lconst (v := 0) dX12_emptiesNow_30 rfl ?_
  obtain ⟨hi3, h⟩ := h
  refine bw_lastore rfl hi3 dX12_emptiesNow_31 ?_
  refine bw_iload_n (i := 2) dX12_emptiesNow_32 rfl rfl ?_
  exact bw_ireturn dX12_emptiesNow_33 rfl rfl ⟨_, rfl, h⟩
theorem fs_X12_emptiesNow {E : bw_E} {d : Nat} {w : bw_W} {Q : Int32 → bw_W → Prop} {a0 : Int32}  (hc0 : (((vp_in (1 + (2 * a0)) 236)))) (hc1 : (vp_in (1 + (2 * a0)) 236)) (hc2 : (vp_in ((1 + (2 * a0)) + 1) 236)) (h : Q (vX12_nounIn w a0) (sw_l (sw_l w 63 ((1 + (2 * a0)).toNatClampNeg) (-1)) 63 (((1 + (2 * a0)) + 1).toNatClampNeg) 0)) : bw_ri E (d + 1) mX12_emptiesNow [.ref 50, .int a0] w Q := by
  refine wfX12_emptiesNow  ?_
  refine ⟨hc0 , ?_⟩
  refine ⟨hc1 , ?_⟩
  refine ⟨hc2 , ?_⟩
  exact h
theorem wfX12_status {E : bw_E} {d : Nat} {w : bw_W} {Q : Int32 → bw_W → Prop} {a0 : Int32}  (h : ((¬ ((¬ (a0 < 0)) ∧ (¬ (2 < a0))) → Q (-1) w) ∧ ((¬ (a0 < 0)) ∧ (¬ (2 < a0)) → (vp_in a0 3) ∧
Q (gw_i w 64 (a0.toNatClampNeg)) w))) : bw_ri E (d + 1) mX12_status [.ref 50, .int a0] w Q := by
  refine bw_enter rfl (Nat.le_of_ble_eq_true rfl) ?_
  refine bw_iload_n (i := 1) dX12_status_0 rfl rfl ?_
  refine bw_iconst (v := 0) dX12_status_1 (by decide) ?_
  refine bw_iconst (v := 2) dX12_status_2 (by decide) ?_
  refine bw_cSb (As := [.int a0, .int 0, .int 2]) (st := []) (Q' := (fun v w1 => (decide ((¬ (a0 < 0)) ∧ (¬ (2 < a0)))) = v ∧ w = w1)) cs_BentWordsModel_100 (fs_X12_in (d := d + 0) (a0 := a0) (a1 := 0) (a2 := 2)  ⟨rfl, rfl⟩) rfl rfl (Nat.le_of_ble_eq_true rfl) dX12_status_3 (fun v w1 hv => ?_)
  obtain ⟨rfl, rfl⟩ := hv
  refine bw_ifb_eq (tgt := 18) dX12_status_6 (by decide) (fun c => ?_) (fun c => ?_)
  · replace h := h.1 (of_decide_eq_false c)
    refine bw_iconst (v := (-1)) dX12_status_18 (by decide) ?_
    exact bw_ireturn dX12_status_19 rfl rfl ⟨_, rfl, h⟩
  · replace h := h.2 (of_decide_eq_true c)
    refine bw_aload_n (i := 0) dX12_status_9 rfl rfl ?_
    refine bw_getr (r := 64) fg_BentWordsModel_50 rfl rfl dX12_status_10 ?_
    refine bw_iload_n (i := 1) dX12_status_13 rfl rfl ?_
    obtain ⟨hi1, h⟩ := h
    refine bw_iaload rfl hi1 dX12_status_14 ?_
    refine bw_goto (tgt := 19) dX12_status_15 (by decide) ?_
    exact bw_ireturn dX12_status_19 rfl rfl ⟨_, rfl, h⟩
def vX12_status (w : bw_W) (a0 : Int32) : Int32 := (if ¬ ((¬ (a0 < 0)) ∧ (¬ (2 < a0))) then (-1) else (gw_i w 64 (a0.toNatClampNeg)))
theorem fs_X12_status {E : bw_E} {d : Nat} {w : bw_W} {Q : Int32 → bw_W → Prop} {a0 : Int32}  (hc0 : ((¬ (a0 < 0)) ∧ (¬ (2 < a0))) → (vp_in a0 3)) (h : Q (vX12_status w a0) w) : bw_ri E (d + 1) mX12_status [.ref 50, .int a0] w Q := by
  refine wfX12_status  ?_
  refine ⟨fun c0 => ?_, fun c0 => ?_⟩
  · (try simp only [vX12_status, c0, if_true, if_false, ite_true, ite_false, decide_true, decide_false, true_and, and_true, false_and, and_false, not_true_eq_false, not_false_eq_true, true_or, or_true, false_or, or_false, or_self, and_self, Classical.not_not] at h) <;> exact h
  · refine ⟨hc0 c0, ?_⟩
    (try simp only [vX12_status, c0, if_true, if_false, ite_true, ite_false, decide_true, decide_false, true_and, and_true, false_and, and_false, not_true_eq_false, not_false_eq_true, true_or, or_true, false_or, or_false, or_self, and_self, Classical.not_not] at h) <;> exact h
theorem wfX12_log {E : bw_E} {d : Nat} {w : bw_W} {Q : Int32 → bw_W → Prop} {a0 : Int32} {a1 : Int32}  (h : ((¬ ((¬ (a0 < 0)) ∧ (¬ ((((gw_l w 63 55).toInt32) - 1) < a0))) → Q (-1000000) w) ∧ ((¬ (a0 < 0)) ∧ (¬ ((((gw_l w 63 55).toInt32) - 1) < a0)) → ((¬ ((¬ (a1 < 0)) ∧ (¬ (2 < a1))) → Q (-1000000) w) ∧ ((¬ (a1 < 0)) ∧ (¬ (2 < a1)) → (vp_in ((56 + (3 * ((((gw_l w 63 55).toInt32) - 1) - a0))) + a1) 236) ∧
Q ((gw_l w 63 (((56 + (3 * ((((gw_l w 63 55).toInt32) - 1) - a0))) + a1).toNatClampNeg)).toInt32) w))))) : bw_ri E (d + 1) mX12_log [.ref 50, .int a0, .int a1] w Q := by
  refine bw_enter rfl (Nat.le_of_ble_eq_true rfl) ?_
  refine bw_aload_n (i := 0) dX12_log_0 rfl rfl ?_
  refine bw_getr (r := 63) fg_BentWordsModel_47 rfl rfl dX12_log_1 ?_
  refine bw_bipush (v := 55) dX12_log_4 (by decide) ?_
  refine bw_laload rfl (by unfold vp_in; decide) dX12_log_6 ?_
  rw [show gw_l w 63 (Int32.toNatClampNeg 55) = (gw_l w 63 55) from rfl]
  refine bw_l2i dX12_log_7 ?_
  refine bw_istore_n (i := 3) (L' := [some (.ref 50), some (.int a0), some (.int a1), some (.int ((gw_l w 63 55).toInt32))]) dX12_log_8 rfl (Nat.le_of_ble_eq_true rfl) rfl ?_
  refine bw_iload_n (i := 1) dX12_log_9 rfl rfl ?_
  refine bw_iconst (v := 0) dX12_log_10 (by decide) ?_
  refine bw_iload_n (i := 3) dX12_log_11 rfl rfl ?_
  refine bw_iconst (v := 1) dX12_log_12 (by decide) ?_
  refine bw_isub dX12_log_13 ?_
  refine bw_cSb (As := [.int a0, .int 0, .int (((gw_l w 63 55).toInt32) - 1)]) (st := []) (Q' := (fun v w1 => (decide ((¬ (a0 < 0)) ∧ (¬ ((((gw_l w 63 55).toInt32) - 1) < a0)))) = v ∧ w = w1)) cs_BentWordsModel_100 (fs_X12_in (d := d + 0) (a0 := a0) (a1 := 0) (a2 := (((gw_l w 63 55).toInt32) - 1))  ⟨rfl, rfl⟩) rfl rfl (Nat.le_of_ble_eq_true rfl) dX12_log_14 (fun v w1 hv => ?_)
  obtain ⟨rfl, rfl⟩ := hv
  refine bw_ifb_eq (tgt := 50) dX12_log_17 (by decide) (fun c => ?_) (fun c => ?_)
  · replace h := h.1 (of_decide_eq_false c)
    refine bw_ldcw ki_BentWordsModel_259 dX12_log_50 ?_
    exact bw_ireturn dX12_log_53 rfl rfl ⟨_, rfl, h⟩
  · replace h := h.2 (of_decide_eq_true c)
    refine bw_iload_n (i := 2) dX12_log_20 rfl rfl ?_
    refine bw_iconst (v := 0) dX12_log_21 (by decide) ?_
    refine bw_iconst (v := 2) dX12_log_22 (by decide) ?_
    refine bw_cSb (As := [.int a1, .int 0, .int 2]) (st := []) (Q' := (fun v w1 => (decide ((¬ (a1 < 0)) ∧ (¬ (2 < a1)))) = v ∧ w = w1)) cs_BentWordsModel_100 (fs_X12_in (d := d + 0) (a0 := a1) (a1 := 0) (a2 := 2)  ⟨rfl, rfl⟩) rfl rfl (Nat.le_of_ble_eq_true rfl) dX12_log_23 (fun v w1 hv => ?_)
    obtain ⟨rfl, rfl⟩ := hv
    refine bw_ifb_eq (tgt := 50) dX12_log_26 (by decide) (fun c => ?_) (fun c => ?_)
    · replace h := h.1 (of_decide_eq_false c)
      refine bw_ldcw ki_BentWordsModel_259 dX12_log_50 ?_
      exact bw_ireturn dX12_log_53 rfl rfl ⟨_, rfl, h⟩
    · replace h := h.2 (of_decide_eq_true c)
      refine bw_aload_n (i := 0) dX12_log_29 rfl rfl ?_
      refine bw_getr (r := 63) fg_BentWordsModel_47 rfl rfl dX12_log_30 ?_
      refine bw_bipush (v := 56) dX12_log_33 (by decide) ?_
      refine bw_iconst (v := 3) dX12_log_35 (by decide) ?_
      refine bw_iload_n (i := 3) dX12_log_36 rfl rfl ?_
      refine bw_iconst (v := 1) dX12_log_37 (by decide) ?_
      refine bw_isub dX12_log_38 ?_
      refine bw_iload_n (i := 1) dX12_log_39 rfl rfl ?_
      refine bw_isub dX12_log_40 ?_
      refine bw_imul dX12_log_41 ?_
      refine bw_iadd dX12_log_42 ?_
      refine bw_iload_n (i := 2) dX12_log_43 rfl rfl ?_
      refine bw_iadd dX12_log_44 ?_
      obtain ⟨hi1, h⟩ := h
      refine bw_laload rfl hi1 dX12_log_45 ?_
      refine bw_l2i dX12_log_46 ?_
      refine bw_goto (tgt := 53) dX12_log_47 (by decide) ?_
      exact bw_ireturn dX12_log_53 rfl rfl ⟨_, rfl, h⟩
def vX12_log (w : bw_W) (a0 : Int32) (a1 : Int32) : Int32 := (if ¬ ((¬ (a0 < 0)) ∧ (¬ ((((gw_l w 63 55).toInt32) - 1) < a0))) then (-1000000) else (if ¬ ((¬ (a1 < 0)) ∧ (¬ (2 < a1))) then (-1000000) else ((gw_l w 63 (((56 + (3 * ((((gw_l w 63 55).toInt32) - 1) - a0))) + a1).toNatClampNeg)).toInt32)))
theorem fs_X12_log {E : bw_E} {d : Nat} {w : bw_W} {Q : Int32 → bw_W → Prop} {a0 : Int32} {a1 : Int32}  (hc0 : ((¬ (a0 < 0)) ∧ (¬ ((((gw_l w 63 55).toInt32) - 1) < a0))) → ((¬ (a1 < 0)) ∧ (¬ (2 < a1))) → (vp_in ((56 + (3 * ((((gw_l w 63 55).toInt32) - 1) - a0))) + a1) 236)) (h : Q (vX12_log w a0 a1) w) : bw_ri E (d + 1) mX12_log [.ref 50, .int a0, .int a1] w Q := by
  refine wfX12_log  ?_
  refine ⟨fun c0 => ?_, fun c0 => ?_⟩
  · (try simp only [vX12_log, c0, if_true, if_false, ite_true, ite_false, decide_true, decide_false, true_and, and_true, false_and, and_false, not_true_eq_false, not_false_eq_true, true_or, or_true, false_or, or_false, or_self, and_self, Classical.not_not] at h) <;> exact h
  · refine ⟨fun c1 => ?_, fun c1 => ?_⟩
    · (try simp only [vX12_log, c0, c1, if_true, if_false, ite_true, ite_false, decide_true, decide_false, true_and, and_true, false_and, and_false, not_true_eq_false, not_false_eq_true, true_or, or_true, false_or, or_false, or_self, and_self, Classical.not_not] at h) <;> exact h
    · refine ⟨hc0 c0 c1, ?_⟩
      (try simp only [vX12_log, c0, c1, if_true, if_false, ite_true, ite_false, decide_true, decide_false, true_and, and_true, false_and, and_false, not_true_eq_false, not_false_eq_true, true_or, or_true, false_or, or_false, or_self, and_self, Classical.not_not] at h) <;> exact h
theorem wfX12_formsTold_4 {E : bw_E} {d : Nat} {w : bw_W} {Q : Int32 → bw_W → Prop} {l1 : Int32} {l2 : Int32}  (h : (((gw_i w 50 34) ≤ l2 → Q l1 w) ∧ (¬ ((gw_i w 50 34) ≤ l2) → (∃ Q1 : Int32 → bw_W → Prop, bw_ri E (d + 0) mX12_formsOf [.ref 50, .int l2] w Q1 ∧ ∀ v2 w3, Q1 v2 w3 →
bw_G E (d + 1) mX12_formsTold 4 [some (.ref 50), some (.int (l1 + v2)), some (.int (l2 + 1))] [] w3 (bw_qi Q))))) : bw_G E (d + 1) mX12_formsTold 4 [some (.ref 50), some (.int l1), some (.int l2)] [] w (bw_qi Q) := by
  refine bw_iload_n (i := 2) dX12_formsTold_4 rfl rfl ?_
  refine bw_aload_n (i := 0) dX12_formsTold_5 rfl rfl ?_
  refine bw_geti fg_BentWordsModel_269 rfl dX12_formsTold_6 ?_
  refine bw_icmp_ge (tgt := 26) dX12_formsTold_9 (by decide) (fun c => ?_) (fun c => ?_)
  · replace h := h.1 (c)
    refine bw_iload_n (i := 1) dX12_formsTold_26 rfl rfl ?_
    exact bw_ireturn dX12_formsTold_27 rfl rfl ⟨_, rfl, h⟩
  · replace h := h.2 (c)
    refine bw_iload_n (i := 1) dX12_formsTold_12 rfl rfl ?_
    refine bw_aload_n (i := 0) dX12_formsTold_13 rfl rfl ?_
    refine bw_iload_n (i := 2) dX12_formsTold_14 rfl rfl ?_
    obtain ⟨Q1, hr, h⟩ := h
    refine bw_cVi (As := [.int l2]) (st := [.int l1]) cv_BentWordsModel_395 rfl rfl hr rfl rfl (Nat.le_of_ble_eq_true rfl) dX12_formsTold_15 (fun v2 w3 hv => ?_)
    replace h := h v2 w3 hv
    clear hr
    refine bw_iadd dX12_formsTold_18 ?_
    refine bw_istore_n (i := 1) (L' := [some (.ref 50), some (.int (l1 + v2)), some (.int l2)]) dX12_formsTold_19 rfl (Nat.le_of_ble_eq_true rfl) rfl ?_
    refine bw_iinc (i := 2) (x := l2) (v := (l2 + 1)) (L' := [some (.ref 50), some (.int (l1 + v2)), some (.int (l2 + 1))]) dX12_formsTold_20 rfl rfl (Nat.le_of_ble_eq_true rfl) rfl ?_
    refine bw_goto (tgt := 4) dX12_formsTold_23 (by decide) ?_
    exact h
theorem wfX12_formsTold {E : bw_E} {d : Nat} {w : bw_W} {Q : Int32 → bw_W → Prop}   (h : bw_G E (d + 1) mX12_formsTold 4 [some (.ref 50), some (.int 0), some (.int 0)] [] w (bw_qi Q)) : bw_ri E (d + 1) mX12_formsTold [.ref 50] w Q := by
  refine bw_enter rfl (Nat.le_of_ble_eq_true rfl) ?_
  refine bw_iconst (v := 0) dX12_formsTold_0 (by decide) ?_
  refine bw_istore_n (i := 1) (L' := [some (.ref 50), some (.int 0), none]) dX12_formsTold_1 rfl (Nat.le_of_ble_eq_true rfl) rfl ?_
  refine bw_iconst (v := 0) dX12_formsTold_2 (by decide) ?_
  refine bw_istore_n (i := 2) (L' := [some (.ref 50), some (.int 0), some (.int 0)]) dX12_formsTold_3 rfl (Nat.le_of_ble_eq_true rfl) rfl ?_
  exact h
theorem wfX12_isScript {E : bw_E} {d : Nat} {w : bw_W} {Q : Bool → bw_W → Prop} {a0 : Int32}  (h : Q (decide ((¬ (a0 < 0)) ∧ (¬ (((gw_i w 50 25) - 1) < a0)))) w) : bw_rb E (d + 1) mX12_isScript [.ref 50, .int a0] w Q := by
  refine bw_enter rfl (Nat.le_of_ble_eq_true rfl) ?_
  refine bw_iload_n (i := 1) dX12_isScript_0 rfl rfl ?_
  refine bw_iconst (v := 0) dX12_isScript_1 (by decide) ?_
  refine bw_aload_n (i := 0) dX12_isScript_2 rfl rfl ?_
  refine bw_geti fg_BentWordsModel_293 rfl dX12_isScript_3 ?_
  refine bw_iconst (v := 1) dX12_isScript_6 (by decide) ?_
  refine bw_isub dX12_isScript_7 ?_
  refine bw_cSb (As := [.int a0, .int 0, .int ((gw_i w 50 25) - 1)]) (st := []) (Q' := (fun v w1 => (decide ((¬ (a0 < 0)) ∧ (¬ (((gw_i w 50 25) - 1) < a0)))) = v ∧ w = w1)) cs_BentWordsModel_100 (fs_X12_in (d := d + 0) (a0 := a0) (a1 := 0) (a2 := ((gw_i w 50 25) - 1))  ⟨rfl, rfl⟩) rfl rfl (Nat.le_of_ble_eq_true rfl) dX12_isScript_8 (fun v w1 hv => ?_)
  obtain ⟨rfl, rfl⟩ := hv
  exact bw_ireturn dX12_isScript_11 rfl (bw_nb _) ⟨_, rfl, h⟩
theorem fs_X12_isScript {E : bw_E} {d : Nat} {w : bw_W} {Q : Bool → bw_W → Prop} {a0 : Int32}   (h : Q (decide ((¬ (a0 < 0)) ∧ (¬ (((gw_i w 50 25) - 1) < a0)))) w) : bw_rb E (d + 1) mX12_isScript [.ref 50, .int a0] w Q := by
  refine wfX12_isScript  ?_
  exact h
theorem wfX12_poorestNoun_4 {E : bw_E} {d : Nat} {w : bw_W} {Q : Int32 → bw_W → Prop} {l1 : Int32} {l2 : Int32}  (h : (((gw_i w 50 34) ≤ l2 → Q l1 w) ∧ (¬ ((gw_i w 50 34) ≤ l2) → (∃ Q1 : Int32 → bw_W → Prop, bw_ri E (d + 0) mX12_formsOf [.ref 50, .int l2] w Q1 ∧ ∀ v2 w3, Q1 v2 w3 →
(∃ Q4 : Int32 → bw_W → Prop, bw_ri E (d + 0) mX12_formsOf [.ref 50, .int l1] w3 Q4 ∧ ∀ v5 w6, Q4 v5 w6 →
((v5 ≤ v2 → bw_G E (d + 1) mX12_poorestNoun 4 [some (.ref 50), some (.int l1), some (.int (l2 + 1))] [] w6 (bw_qi Q)) ∧ (¬ (v5 ≤ v2) → bw_G E (d + 1) mX12_poorestNoun 4 [some (.ref 50), some (.int l2), some (.int (l2 + 1))] [] w6 (bw_qi Q)))))))) : bw_G E (d + 1) mX12_poorestNoun 4 [some (.ref 50), some (.int l1), some (.int l2)] [] w (bw_qi Q) := by
  refine bw_iload_n (i := 2) dX12_poorestNoun_4 rfl rfl ?_
  refine bw_aload_n (i := 0) dX12_poorestNoun_5 rfl rfl ?_
  refine bw_geti fg_BentWordsModel_269 rfl dX12_poorestNoun_6 ?_
  refine bw_icmp_ge (tgt := 37) dX12_poorestNoun_9 (by decide) (fun c => ?_) (fun c => ?_)
  · replace h := h.1 (c)
    refine bw_iload_n (i := 1) dX12_poorestNoun_37 rfl rfl ?_
    exact bw_ireturn dX12_poorestNoun_38 rfl rfl ⟨_, rfl, h⟩
  · replace h := h.2 (c)
    refine bw_aload_n (i := 0) dX12_poorestNoun_12 rfl rfl ?_
    refine bw_iload_n (i := 2) dX12_poorestNoun_13 rfl rfl ?_
    obtain ⟨Q1, hr, h⟩ := h
    refine bw_cVi (As := [.int l2]) (st := []) cv_BentWordsModel_395 rfl rfl hr rfl rfl (Nat.le_of_ble_eq_true rfl) dX12_poorestNoun_14 (fun v2 w3 hv => ?_)
    replace h := h v2 w3 hv
    clear hr
    refine bw_aload_n (i := 0) dX12_poorestNoun_17 rfl rfl ?_
    refine bw_iload_n (i := 1) dX12_poorestNoun_18 rfl rfl ?_
    obtain ⟨Q4, hr, h⟩ := h
    refine bw_cVi (As := [.int l1]) (st := [.int v2]) cv_BentWordsModel_395 rfl rfl hr rfl rfl (Nat.le_of_ble_eq_true rfl) dX12_poorestNoun_19 (fun v5 w6 hv => ?_)
    replace h := h v5 w6 hv
    clear hr
    refine bw_icmp_ge (tgt := 29) dX12_poorestNoun_22 (by decide) (fun c => ?_) (fun c => ?_)
    · replace h := h.1 (c)
      refine bw_iload_n (i := 1) dX12_poorestNoun_29 rfl rfl ?_
      refine bw_istore_n (i := 1) (L' := [some (.ref 50), some (.int l1), some (.int l2)]) dX12_poorestNoun_30 rfl (Nat.le_of_ble_eq_true rfl) rfl ?_
      refine bw_iinc (i := 2) (x := l2) (v := (l2 + 1)) (L' := [some (.ref 50), some (.int l1), some (.int (l2 + 1))]) dX12_poorestNoun_31 rfl rfl (Nat.le_of_ble_eq_true rfl) rfl ?_
      refine bw_goto (tgt := 4) dX12_poorestNoun_34 (by decide) ?_
      exact h
    · replace h := h.2 (c)
      refine bw_iload_n (i := 2) dX12_poorestNoun_25 rfl rfl ?_
      refine bw_goto (tgt := 30) dX12_poorestNoun_26 (by decide) ?_
      refine bw_istore_n (i := 1) (L' := [some (.ref 50), some (.int l2), some (.int l2)]) dX12_poorestNoun_30 rfl (Nat.le_of_ble_eq_true rfl) rfl ?_
      refine bw_iinc (i := 2) (x := l2) (v := (l2 + 1)) (L' := [some (.ref 50), some (.int l2), some (.int (l2 + 1))]) dX12_poorestNoun_31 rfl rfl (Nat.le_of_ble_eq_true rfl) rfl ?_
      refine bw_goto (tgt := 4) dX12_poorestNoun_34 (by decide) ?_
      exact h
theorem wfX12_poorestNoun {E : bw_E} {d : Nat} {w : bw_W} {Q : Int32 → bw_W → Prop}   (h : bw_G E (d + 1) mX12_poorestNoun 4 [some (.ref 50), some (.int 0), some (.int 1)] [] w (bw_qi Q)) : bw_ri E (d + 1) mX12_poorestNoun [.ref 50] w Q := by
  refine bw_enter rfl (Nat.le_of_ble_eq_true rfl) ?_
  refine bw_iconst (v := 0) dX12_poorestNoun_0 (by decide) ?_
  refine bw_istore_n (i := 1) (L' := [some (.ref 50), some (.int 0), none]) dX12_poorestNoun_1 rfl (Nat.le_of_ble_eq_true rfl) rfl ?_
  refine bw_iconst (v := 1) dX12_poorestNoun_2 (by decide) ?_
  refine bw_istore_n (i := 2) (L' := [some (.ref 50), some (.int 0), some (.int 1)]) dX12_poorestNoun_3 rfl (Nat.le_of_ble_eq_true rfl) rfl ?_
  exact h
theorem wfX12_filled_4 {E : bw_E} {d : Nat} {w : bw_W} {Q : Int32 → bw_W → Prop} {l1 : Int32} {l2 : Int32}  (h : ((3 ≤ l2 → Q l1 w) ∧ (¬ (3 ≤ l2) → (((vp_in (1 + (2 * l2)) 236))) ∧
(((vX12_nounIn w l2) = (-1) → bw_G E (d + 1) mX12_filled 4 [some (.ref 50), some (.int (l1 ||| 0)), some (.int (l2 + 1))] [] w (bw_qi Q)) ∧ (¬ ((vX12_nounIn w l2) = (-1)) → bw_G E (d + 1) mX12_filled 4 [some (.ref 50), some (.int (l1 ||| ((1 : Int32) <<< (l2 &&& 31)))), some (.int (l2 + 1))] [] w (bw_qi Q)))))) : bw_G E (d + 1) mX12_filled 4 [some (.ref 50), some (.int l1), some (.int l2)] [] w (bw_qi Q) := by
  refine bw_iload_n (i := 2) dX12_filled_4 rfl rfl ?_
  refine bw_iconst (v := 3) dX12_filled_5 (by decide) ?_
  refine bw_icmp_ge (tgt := 34) dX12_filled_6 (by decide) (fun c => ?_) (fun c => ?_)
  · replace h := h.1 (c)
    refine bw_iload_n (i := 1) dX12_filled_34 rfl rfl ?_
    exact bw_ireturn dX12_filled_35 rfl rfl ⟨_, rfl, h⟩
  · replace h := h.2 (c)
    refine bw_iload_n (i := 1) dX12_filled_9 rfl rfl ?_
    refine bw_aload_n (i := 0) dX12_filled_10 rfl rfl ?_
    refine bw_iload_n (i := 2) dX12_filled_11 rfl rfl ?_
    obtain ⟨hc1, h⟩ := h
    refine bw_cVi (As := [.int l2]) (st := [.int l1]) (Q' := (fun v w1 => (vX12_nounIn w l2) = v ∧ w = w1)) cv_BentWordsModel_330 rfl rfl (fs_X12_nounIn (d := d + 0) (a0 := l2) hc1 ⟨rfl, rfl⟩) rfl rfl (Nat.le_of_ble_eq_true rfl) dX12_filled_12 (fun v w1 hv => ?_)
    obtain ⟨rfl, rfl⟩ := hv
    refine bw_iconst (v := (-1)) dX12_filled_15 (by decide) ?_
    refine bw_icmp_eq (tgt := 25) dX12_filled_16 (by decide) (fun c => ?_) (fun c => ?_)
    · replace h := h.1 (c)
      refine bw_iconst (v := 0) dX12_filled_25 (by decide) ?_
      refine bw_ior dX12_filled_26 ?_
      refine bw_istore_n (i := 1) (L' := [some (.ref 50), some (.int (l1 ||| 0)), some (.int l2)]) dX12_filled_27 rfl (Nat.le_of_ble_eq_true rfl) rfl ?_
      refine bw_iinc (i := 2) (x := l2) (v := (l2 + 1)) (L' := [some (.ref 50), some (.int (l1 ||| 0)), some (.int (l2 + 1))]) dX12_filled_28 rfl rfl (Nat.le_of_ble_eq_true rfl) rfl ?_
      refine bw_goto (tgt := 4) dX12_filled_31 (by decide) ?_
      exact h
    · replace h := h.2 (c)
      refine bw_iconst (v := 1) dX12_filled_19 (by decide) ?_
      refine bw_iload_n (i := 2) dX12_filled_20 rfl rfl ?_
      refine bw_ishl dX12_filled_21 ?_
      refine bw_goto (tgt := 26) dX12_filled_22 (by decide) ?_
      refine bw_ior dX12_filled_26 ?_
      refine bw_istore_n (i := 1) (L' := [some (.ref 50), some (.int (l1 ||| ((1 : Int32) <<< (l2 &&& 31)))), some (.int l2)]) dX12_filled_27 rfl (Nat.le_of_ble_eq_true rfl) rfl ?_
      refine bw_iinc (i := 2) (x := l2) (v := (l2 + 1)) (L' := [some (.ref 50), some (.int (l1 ||| ((1 : Int32) <<< (l2 &&& 31)))), some (.int (l2 + 1))]) dX12_filled_28 rfl rfl (Nat.le_of_ble_eq_true rfl) rfl ?_
      refine bw_goto (tgt := 4) dX12_filled_31 (by decide) ?_
      exact h
theorem wfX12_filled {E : bw_E} {d : Nat} {w : bw_W} {Q : Int32 → bw_W → Prop}   (h : bw_G E (d + 1) mX12_filled 4 [some (.ref 50), some (.int 0), some (.int 0)] [] w (bw_qi Q)) : bw_ri E (d + 1) mX12_filled [.ref 50] w Q := by
  refine bw_enter rfl (Nat.le_of_ble_eq_true rfl) ?_
  refine bw_iconst (v := 0) dX12_filled_0 (by decide) ?_
  refine bw_istore_n (i := 1) (L' := [some (.ref 50), some (.int 0), none]) dX12_filled_1 rfl (Nat.le_of_ble_eq_true rfl) rfl ?_
  refine bw_iconst (v := 0) dX12_filled_2 (by decide) ?_
  refine bw_istore_n (i := 2) (L' := [some (.ref 50), some (.int 0), some (.int 0)]) dX12_filled_3 rfl (Nat.le_of_ble_eq_true rfl) rfl ?_
  exact h
theorem wfX12_twiceOnes_4 {E : bw_E} {d : Nat} {w : bw_W} {Q : Int32 → bw_W → Prop} {l1 : Int32} {l2 : Int32}  (h : (((gw_i w 50 34) ≤ l2 → Q l1 w) ∧ (¬ ((gw_i w 50 34) ≤ l2) → bw_G E (d + 1) mX12_twiceOnes 14 [some (.ref 50), some (.int l1), some (.int l2), some (.int 0)] [] w (bw_qi Q)))) : bw_G E (d + 1) mX12_twiceOnes 4 [some (.ref 50), some (.int l1), some (.int l2), none] [] w (bw_qi Q) := by
  refine bw_iload_n (i := 2) dX12_twiceOnes_4 rfl rfl ?_
  refine bw_aload_n (i := 0) dX12_twiceOnes_5 rfl rfl ?_
  refine bw_geti fg_BentWordsModel_269 rfl dX12_twiceOnes_6 ?_
  refine bw_icmp_ge (tgt := 49) dX12_twiceOnes_9 (by decide) (fun c => ?_) (fun c => ?_)
  · replace h := h.1 (c)
    refine bw_iload_n (i := 1) dX12_twiceOnes_49 rfl rfl ?_
    exact bw_ireturn dX12_twiceOnes_50 rfl rfl ⟨_, rfl, h⟩
  · replace h := h.2 (c)
    refine bw_iconst (v := 0) dX12_twiceOnes_12 (by decide) ?_
    refine bw_istore_n (i := 3) (L' := [some (.ref 50), some (.int l1), some (.int l2), some (.int 0)]) dX12_twiceOnes_13 rfl (Nat.le_of_ble_eq_true rfl) rfl ?_
    exact h
theorem wfX12_twiceOnes_14 {E : bw_E} {d : Nat} {w : bw_W} {Q : Int32 → bw_W → Prop} {l1 : Int32} {l2 : Int32} {l3 : Int32}  (h : ((8 ≤ l3 → bw_G E (d + 1) mX12_twiceOnes 4 [some (.ref 50), some (.int l1), some (.int (l2 + 1)), none] [] w (bw_qi Q)) ∧ (¬ (8 ≤ l3) → (∃ Q1 : Bool → bw_W → Prop, bw_rb E (d + 0) mX12_isTwice [.ref 50, .int l2, .int l3] w Q1 ∧ ∀ v2 w3, Q1 v2 w3 →
((v2 = false → bw_G E (d + 1) mX12_twiceOnes 14 [some (.ref 50), some (.int (l1 + 0)), some (.int l2), some (.int (l3 + 1))] [] w3 (bw_qi Q)) ∧ (v2 = true → bw_G E (d + 1) mX12_twiceOnes 14 [some (.ref 50), some (.int (l1 + 1)), some (.int l2), some (.int (l3 + 1))] [] w3 (bw_qi Q))))))) : bw_G E (d + 1) mX12_twiceOnes 14 [some (.ref 50), some (.int l1), some (.int l2), some (.int l3)] [] w (bw_qi Q) := by
  refine bw_iload_n (i := 3) dX12_twiceOnes_14 rfl rfl ?_
  refine bw_bipush (v := 8) dX12_twiceOnes_15 (by decide) ?_
  refine bw_icmp_ge (tgt := 43) dX12_twiceOnes_17 (by decide) (fun c => ?_) (fun c => ?_)
  · replace h := h.1 (c)
    refine bw_iinc (i := 2) (x := l2) (v := (l2 + 1)) (L' := [some (.ref 50), some (.int l1), some (.int (l2 + 1)), some (.int l3)]) dX12_twiceOnes_43 rfl rfl (Nat.le_of_ble_eq_true rfl) rfl ?_
    refine bw_goto (tgt := 4) dX12_twiceOnes_46 (by decide) ?_
    exact bw_wk [3] rfl h
  · replace h := h.2 (c)
    refine bw_iload_n (i := 1) dX12_twiceOnes_20 rfl rfl ?_
    refine bw_aload_n (i := 0) dX12_twiceOnes_21 rfl rfl ?_
    refine bw_iload_n (i := 2) dX12_twiceOnes_22 rfl rfl ?_
    refine bw_iload_n (i := 3) dX12_twiceOnes_23 rfl rfl ?_
    obtain ⟨Q1, hr, h⟩ := h
    refine bw_cVb (As := [.int l2, .int l3]) (st := [.int l1]) cv_BentWordsModel_506 rfl rfl hr rfl rfl (Nat.le_of_ble_eq_true rfl) dX12_twiceOnes_24 (fun v2 w3 hv => ?_)
    replace h := h v2 w3 hv
    clear hr
    refine bw_ifb_eq (tgt := 34) dX12_twiceOnes_27 (by decide) (fun c => ?_) (fun c => ?_)
    · replace h := h.1 (c)
      refine bw_iconst (v := 0) dX12_twiceOnes_34 (by decide) ?_
      refine bw_iadd dX12_twiceOnes_35 ?_
      refine bw_istore_n (i := 1) (L' := [some (.ref 50), some (.int (l1 + 0)), some (.int l2), some (.int l3)]) dX12_twiceOnes_36 rfl (Nat.le_of_ble_eq_true rfl) rfl ?_
      refine bw_iinc (i := 3) (x := l3) (v := (l3 + 1)) (L' := [some (.ref 50), some (.int (l1 + 0)), some (.int l2), some (.int (l3 + 1))]) dX12_twiceOnes_37 rfl rfl (Nat.le_of_ble_eq_true rfl) rfl ?_
      refine bw_goto (tgt := 14) dX12_twiceOnes_40 (by decide) ?_
      exact h
    · replace h := h.2 (c)
      refine bw_iconst (v := 1) dX12_twiceOnes_30 (by decide) ?_
      refine bw_goto (tgt := 35) dX12_twiceOnes_31 (by decide) ?_
      refine bw_iadd dX12_twiceOnes_35 ?_
      refine bw_istore_n (i := 1) (L' := [some (.ref 50), some (.int (l1 + 1)), some (.int l2), some (.int l3)]) dX12_twiceOnes_36 rfl (Nat.le_of_ble_eq_true rfl) rfl ?_
      refine bw_iinc (i := 3) (x := l3) (v := (l3 + 1)) (L' := [some (.ref 50), some (.int (l1 + 1)), some (.int l2), some (.int (l3 + 1))]) dX12_twiceOnes_37 rfl rfl (Nat.le_of_ble_eq_true rfl) rfl ?_
      refine bw_goto (tgt := 14) dX12_twiceOnes_40 (by decide) ?_
      exact h
theorem wfX12_twiceOnes {E : bw_E} {d : Nat} {w : bw_W} {Q : Int32 → bw_W → Prop}   (h : bw_G E (d + 1) mX12_twiceOnes 4 [some (.ref 50), some (.int 0), some (.int 0), none] [] w (bw_qi Q)) : bw_ri E (d + 1) mX12_twiceOnes [.ref 50] w Q := by
  refine bw_enter rfl (Nat.le_of_ble_eq_true rfl) ?_
  refine bw_iconst (v := 0) dX12_twiceOnes_0 (by decide) ?_
  refine bw_istore_n (i := 1) (L' := [some (.ref 50), some (.int 0), none, none]) dX12_twiceOnes_1 rfl (Nat.le_of_ble_eq_true rfl) rfl ?_
  refine bw_iconst (v := 0) dX12_twiceOnes_2 (by decide) ?_
  refine bw_istore_n (i := 2) (L' := [some (.ref 50), some (.int 0), some (.int 0), none]) dX12_twiceOnes_3 rfl (Nat.le_of_ble_eq_true rfl) rfl ?_
  exact h
theorem wfX0_wordAlone {E : bw_E} {d : Nat} {w : bw_W} {Q : Int64 → bw_W → Prop}   (h : (∃ Q1 : Bool → bw_W → Prop, bw_rb E (d + 1) mX0_takeWord [.ref 3] (sw_i w 3 1 0) Q1 ∧ ∀ v2 w3, Q1 v2 w3 →
((v2 = false → Q 0 w3) ∧ (v2 = true → (∃ Q4 : Bool → bw_W → Prop, bw_rb E (d + 1) mX0_isAtEnd [.ref 3] w3 Q4 ∧ ∀ v5 w6, Q4 v5 w6 →
((v5 = false → Q 0 w6) ∧ (v5 = true → Q (gw_l w6 3 5) w6))))))) : bw_rl E (d + 2) mX0_wordAlone [.ref 3] w Q := by
  refine bw_enter rfl (Nat.le_of_ble_eq_true rfl) ?_
  refine bw_aload_n (i := 0) dX0_wordAlone_0 rfl rfl ?_
  refine bw_cVv (As := []) (st := []) (Q' := (fun w1 => (sw_i w 3 1 0) = w1)) cv_BentWords_Cursor_57 rfl rfl (fs_X0_rewind (d := d + 1)   rfl) rfl rfl (Nat.le_of_ble_eq_true rfl) dX0_wordAlone_1 (fun w1 hv => ?_)
  subst hv
  refine bw_aload_n (i := 0) dX0_wordAlone_4 rfl rfl ?_
  obtain ⟨Q1, hr, h⟩ := h
  refine bw_cVb (As := []) (st := []) cv_BentWords_Cursor_60 rfl rfl hr rfl rfl (Nat.le_of_ble_eq_true rfl) dX0_wordAlone_5 (fun v2 w3 hv => ?_)
  replace h := h v2 w3 hv
  clear hr
  refine bw_ifb_eq (tgt := 25) dX0_wordAlone_8 (by decide) (fun c => ?_) (fun c => ?_)
  · replace h := h.1 (c)
    refine bw_lconst (v := 0) dX0_wordAlone_25 rfl ?_
    exact bw_lreturn dX0_wordAlone_26 rfl ⟨_, rfl, h⟩
  · replace h := h.2 (c)
    refine bw_aload_n (i := 0) dX0_wordAlone_11 rfl rfl ?_
    obtain ⟨Q4, hr, h⟩ := h
    refine bw_cVb (As := []) (st := []) cv_BentWords_Cursor_64 rfl rfl hr rfl rfl (Nat.le_of_ble_eq_true rfl) dX0_wordAlone_12 (fun v5 w6 hv => ?_)
    replace h := h v5 w6 hv
    clear hr
    refine bw_ifb_eq (tgt := 25) dX0_wordAlone_15 (by decide) (fun c => ?_) (fun c => ?_)
    · replace h := h.1 (c)
      refine bw_lconst (v := 0) dX0_wordAlone_25 rfl ?_
      exact bw_lreturn dX0_wordAlone_26 rfl ⟨_, rfl, h⟩
    · replace h := h.2 (c)
      refine bw_aload_n (i := 0) dX0_wordAlone_18 rfl rfl ?_
      refine bw_getl fg_BentWords_Cursor_37 rfl dX0_wordAlone_19 ?_
      refine bw_goto (tgt := 26) dX0_wordAlone_22 (by decide) ?_
      exact bw_lreturn dX0_wordAlone_26 rfl ⟨_, rfl, h⟩
theorem wfX1_drawStep {E : bw_E} {d : Nat} {w : bw_W} {Q : bw_W → Prop} {a1 : Int32}  (h : (∃ Q1 : Int32 → bw_W → Prop, bw_ri E (d + 1) mX1_next [.ref 48, .int 8] w Q1 ∧ ∀ v2 w3, Q1 v2 w3 →
((4 ≤ v2 → ((¬ v2 = 4 → ((¬ v2 = 5 → ((¬ v2 = 6 → (∃ Q4 : Int32 → bw_W → Prop, bw_ri E (d + 1) mX1_next [.ref 48, .int a1] (sw_i w3 49 0 4) Q4 ∧ ∀ v5 w6, Q4 v5 w6 →
(∃ Q7 : Int32 → bw_W → Prop, bw_ri E (d + 1) mX1_next [.ref 48, .int 4] (sw_i w6 49 1 v5) Q7 ∧ ∀ v8 w9, Q7 v8 w9 →
(∃ Q10 : Int32 → bw_W → Prop, bw_ri E (d + 1) mX1_next [.ref 48, .int 2] (sw_i w9 49 2 v8) Q10 ∧ ∀ v11 w12, Q10 v11 w12 →
((¬ v2 = 6 → Q (sw_l (sw_i w12 49 3 v11) 49 4 0)) ∧ (v2 = 6 → (∃ Q13 : Int64 → bw_W → Prop, bw_rl E (d + 1) mX1_drawWord [.ref 48] (sw_i w12 49 3 v11) Q13 ∧ ∀ v14 w15, Q13 v14 w15 →
Q (sw_l w15 49 4 v14)))))))) ∧ (v2 = 6 → (∃ Q16 : Int32 → bw_W → Prop, bw_ri E (d + 1) mX1_next [.ref 48, .int a1] (sw_i w3 49 0 3) Q16 ∧ ∀ v17 w18, Q16 v17 w18 →
(∃ Q19 : Int32 → bw_W → Prop, bw_ri E (d + 1) mX1_next [.ref 48, .int 4] (sw_i w18 49 1 v17) Q19 ∧ ∀ v20 w21, Q19 v20 w21 →
(∃ Q22 : Int32 → bw_W → Prop, bw_ri E (d + 1) mX1_next [.ref 48, .int 2] (sw_i w21 49 2 v20) Q22 ∧ ∀ v23 w24, Q22 v23 w24 →
((¬ v2 = 6 → Q (sw_l (sw_i w24 49 3 v23) 49 4 0)) ∧ (v2 = 6 → (∃ Q25 : Int64 → bw_W → Prop, bw_rl E (d + 1) mX1_drawWord [.ref 48] (sw_i w24 49 3 v23) Q25 ∧ ∀ v26 w27, Q25 v26 w27 →
Q (sw_l w27 49 4 v26)))))))))) ∧ (v2 = 5 → (∃ Q28 : Int32 → bw_W → Prop, bw_ri E (d + 1) mX1_next [.ref 48, .int 2] (sw_i w3 49 0 2) Q28 ∧ ∀ v29 w30, Q28 v29 w30 →
Q (sw_i w30 49 1 v29))))) ∧ (v2 = 4 → (∃ Q31 : Int32 → bw_W → Prop, bw_ri E (d + 1) mX1_next [.ref 48, .int 3] (sw_i w3 49 0 1) Q31 ∧ ∀ v32 w33, Q31 v32 w33 →
Q (sw_i w33 49 1 v32))))) ∧ (¬ (4 ≤ v2) → (∃ Q34 : Int32 → bw_W → Prop, bw_ri E (d + 1) mX1_next [.ref 48, .int 3] (sw_i w3 49 0 0) Q34 ∧ ∀ v35 w36, Q34 v35 w36 →
(∃ Q37 : Int32 → bw_W → Prop, bw_ri E (d + 1) mX1_next [.ref 48, .int a1] (sw_i w36 49 1 v35) Q37 ∧ ∀ v38 w39, Q37 v38 w39 →
(∃ Q40 : Int32 → bw_W → Prop, bw_ri E (d + 1) mX1_next [.ref 48, .int 4] (sw_i w39 49 2 v38) Q40 ∧ ∀ v41 w42, Q40 v41 w42 →
Q (sw_i w42 49 3 v41)))))))) : bw_rv E (d + 2) mX1_drawStep [.ref 48, .ref 49, .int a1] w Q := by
  refine bw_enter rfl (Nat.le_of_ble_eq_true rfl) ?_
  refine bw_aload_n (i := 0) dX1_drawStep_0 rfl rfl ?_
  refine bw_bipush (v := 8) dX1_drawStep_1 (by decide) ?_
  obtain ⟨Q1, hr, h⟩ := h
  refine bw_cVi (As := [.int 8]) (st := []) cv_BentWords_Draws_19 rfl rfl hr rfl rfl (Nat.le_of_ble_eq_true rfl) dX1_drawStep_3 (fun v2 w3 hv => ?_)
  replace h := h v2 w3 hv
  clear hr
  refine bw_istore_n (i := 3) (L' := [some (.ref 48), some (.ref 49), some (.int a1), some (.int v2)]) dX1_drawStep_6 rfl (Nat.le_of_ble_eq_true rfl) rfl ?_
  refine bw_iload_n (i := 3) dX1_drawStep_7 rfl rfl ?_
  refine bw_iconst (v := 4) dX1_drawStep_8 (by decide) ?_
  refine bw_icmp_ge (tgt := 47) dX1_drawStep_9 (by decide) (fun c => ?_) (fun c => ?_)
  · replace h := h.1 (c)
    refine bw_iload_n (i := 3) dX1_drawStep_47 rfl rfl ?_
    refine bw_iconst (v := 4) dX1_drawStep_48 (by decide) ?_
    refine bw_icmp_ne (tgt := 69) dX1_drawStep_49 (by decide) (fun c => ?_) (fun c => ?_)
    · replace h := h.1 (c)
      refine bw_iload_n (i := 3) dX1_drawStep_69 rfl rfl ?_
      refine bw_iconst (v := 5) dX1_drawStep_70 (by decide) ?_
      refine bw_icmp_ne (tgt := 91) dX1_drawStep_71 (by decide) (fun c => ?_) (fun c => ?_)
      · replace h := h.1 (c)
        refine bw_aload_n (i := 1) dX1_drawStep_91 rfl rfl ?_
        refine bw_iload_n (i := 3) dX1_drawStep_92 rfl rfl ?_
        refine bw_bipush (v := 6) dX1_drawStep_93 (by decide) ?_
        refine bw_icmp_ne (tgt := 102) dX1_drawStep_95 (by decide) (fun c => ?_) (fun c => ?_)
        · replace h := h.1 (c)
          refine bw_iconst (v := 4) dX1_drawStep_102 (by decide) ?_
          refine bw_puti fp_BentWords_Draws_23 rfl rfl rfl dX1_drawStep_103 ?_
          refine bw_aload_n (i := 1) dX1_drawStep_106 rfl rfl ?_
          refine bw_aload_n (i := 0) dX1_drawStep_107 rfl rfl ?_
          refine bw_iload_n (i := 2) dX1_drawStep_108 rfl rfl ?_
          obtain ⟨Q4, hr, h⟩ := h
          refine bw_cVi (As := [.int a1]) (st := [.ref 49]) cv_BentWords_Draws_19 rfl rfl hr rfl rfl (Nat.le_of_ble_eq_true rfl) dX1_drawStep_109 (fun v5 w6 hv => ?_)
          replace h := h v5 w6 hv
          clear hr
          refine bw_puti fp_BentWords_Draws_29 rfl rfl rfl dX1_drawStep_112 ?_
          refine bw_aload_n (i := 1) dX1_drawStep_115 rfl rfl ?_
          refine bw_aload_n (i := 0) dX1_drawStep_116 rfl rfl ?_
          refine bw_iconst (v := 4) dX1_drawStep_117 (by decide) ?_
          obtain ⟨Q7, hr, h⟩ := h
          refine bw_cVi (As := [.int 4]) (st := [.ref 49]) cv_BentWords_Draws_19 rfl rfl hr rfl rfl (Nat.le_of_ble_eq_true rfl) dX1_drawStep_118 (fun v8 w9 hv => ?_)
          replace h := h v8 w9 hv
          clear hr
          refine bw_puti fp_BentWords_Draws_32 rfl rfl rfl dX1_drawStep_121 ?_
          refine bw_aload_n (i := 1) dX1_drawStep_124 rfl rfl ?_
          refine bw_aload_n (i := 0) dX1_drawStep_125 rfl rfl ?_
          refine bw_iconst (v := 2) dX1_drawStep_126 (by decide) ?_
          obtain ⟨Q10, hr, h⟩ := h
          refine bw_cVi (As := [.int 2]) (st := [.ref 49]) cv_BentWords_Draws_19 rfl rfl hr rfl rfl (Nat.le_of_ble_eq_true rfl) dX1_drawStep_127 (fun v11 w12 hv => ?_)
          replace h := h v11 w12 hv
          clear hr
          refine bw_puti fp_BentWords_Draws_35 rfl rfl rfl dX1_drawStep_130 ?_
          refine bw_aload_n (i := 1) dX1_drawStep_133 rfl rfl ?_
          refine bw_iload_n (i := 3) dX1_drawStep_134 rfl rfl ?_
          refine bw_bipush (v := 6) dX1_drawStep_135 (by decide) ?_
          refine bw_icmp_ne (tgt := 147) dX1_drawStep_137 (by decide) (fun c => ?_) (fun c => ?_)
          · replace h := h.1 (c)
            refine bw_lconst (v := 0) dX1_drawStep_147 rfl ?_
            refine bw_putl fp_BentWords_Draws_42 rfl dX1_drawStep_148 ?_
            exact bw_return dX1_drawStep_151 rfl ⟨rfl, h⟩
          · replace h := h.2 (c)
            refine bw_aload_n (i := 0) dX1_drawStep_140 rfl rfl ?_
            obtain ⟨Q13, hr, h⟩ := h
            refine bw_cVl (As := []) (st := [.ref 49]) cv_BentWords_Draws_38 rfl rfl hr rfl rfl (Nat.le_of_ble_eq_true rfl) dX1_drawStep_141 (fun v14 w15 hv => ?_)
            replace h := h v14 w15 hv
            clear hr
            refine bw_goto (tgt := 148) dX1_drawStep_144 (by decide) ?_
            refine bw_putl fp_BentWords_Draws_42 rfl dX1_drawStep_148 ?_
            exact bw_return dX1_drawStep_151 rfl ⟨rfl, h⟩
        · replace h := h.2 (c)
          refine bw_iconst (v := 3) dX1_drawStep_98 (by decide) ?_
          refine bw_goto (tgt := 103) dX1_drawStep_99 (by decide) ?_
          refine bw_puti fp_BentWords_Draws_23 rfl rfl rfl dX1_drawStep_103 ?_
          refine bw_aload_n (i := 1) dX1_drawStep_106 rfl rfl ?_
          refine bw_aload_n (i := 0) dX1_drawStep_107 rfl rfl ?_
          refine bw_iload_n (i := 2) dX1_drawStep_108 rfl rfl ?_
          obtain ⟨Q16, hr, h⟩ := h
          refine bw_cVi (As := [.int a1]) (st := [.ref 49]) cv_BentWords_Draws_19 rfl rfl hr rfl rfl (Nat.le_of_ble_eq_true rfl) dX1_drawStep_109 (fun v17 w18 hv => ?_)
          replace h := h v17 w18 hv
          clear hr
          refine bw_puti fp_BentWords_Draws_29 rfl rfl rfl dX1_drawStep_112 ?_
          refine bw_aload_n (i := 1) dX1_drawStep_115 rfl rfl ?_
          refine bw_aload_n (i := 0) dX1_drawStep_116 rfl rfl ?_
          refine bw_iconst (v := 4) dX1_drawStep_117 (by decide) ?_
          obtain ⟨Q19, hr, h⟩ := h
          refine bw_cVi (As := [.int 4]) (st := [.ref 49]) cv_BentWords_Draws_19 rfl rfl hr rfl rfl (Nat.le_of_ble_eq_true rfl) dX1_drawStep_118 (fun v20 w21 hv => ?_)
          replace h := h v20 w21 hv
          clear hr
          refine bw_puti fp_BentWords_Draws_32 rfl rfl rfl dX1_drawStep_121 ?_
          refine bw_aload_n (i := 1) dX1_drawStep_124 rfl rfl ?_
          refine bw_aload_n (i := 0) dX1_drawStep_125 rfl rfl ?_
          refine bw_iconst (v := 2) dX1_drawStep_126 (by decide) ?_
          obtain ⟨Q22, hr, h⟩ := h
          refine bw_cVi (As := [.int 2]) (st := [.ref 49]) cv_BentWords_Draws_19 rfl rfl hr rfl rfl (Nat.le_of_ble_eq_true rfl) dX1_drawStep_127 (fun v23 w24 hv => ?_)
          replace h := h v23 w24 hv
          clear hr
          refine bw_puti fp_BentWords_Draws_35 rfl rfl rfl dX1_drawStep_130 ?_
          refine bw_aload_n (i := 1) dX1_drawStep_133 rfl rfl ?_
          refine bw_iload_n (i := 3) dX1_drawStep_134 rfl rfl ?_
          refine bw_bipush (v := 6) dX1_drawStep_135 (by decide) ?_
          refine bw_icmp_ne (tgt := 147) dX1_drawStep_137 (by decide) (fun c => ?_) (fun c => ?_)
          · replace h := h.1 (c)
            refine bw_lconst (v := 0) dX1_drawStep_147 rfl ?_
            refine bw_putl fp_BentWords_Draws_42 rfl dX1_drawStep_148 ?_
            exact bw_return dX1_drawStep_151 rfl ⟨rfl, h⟩
          · replace h := h.2 (c)
            refine bw_aload_n (i := 0) dX1_drawStep_140 rfl rfl ?_
            obtain ⟨Q25, hr, h⟩ := h
            refine bw_cVl (As := []) (st := [.ref 49]) cv_BentWords_Draws_38 rfl rfl hr rfl rfl (Nat.le_of_ble_eq_true rfl) dX1_drawStep_141 (fun v26 w27 hv => ?_)
            replace h := h v26 w27 hv
            clear hr
            refine bw_goto (tgt := 148) dX1_drawStep_144 (by decide) ?_
            refine bw_putl fp_BentWords_Draws_42 rfl dX1_drawStep_148 ?_
            exact bw_return dX1_drawStep_151 rfl ⟨rfl, h⟩
      · replace h := h.2 (c)
        refine bw_aload_n (i := 1) dX1_drawStep_74 rfl rfl ?_
        refine bw_iconst (v := 2) dX1_drawStep_75 (by decide) ?_
        refine bw_puti fp_BentWords_Draws_23 rfl rfl rfl dX1_drawStep_76 ?_
        refine bw_aload_n (i := 1) dX1_drawStep_79 rfl rfl ?_
        refine bw_aload_n (i := 0) dX1_drawStep_80 rfl rfl ?_
        refine bw_iconst (v := 2) dX1_drawStep_81 (by decide) ?_
        obtain ⟨Q28, hr, h⟩ := h
        refine bw_cVi (As := [.int 2]) (st := [.ref 49]) cv_BentWords_Draws_19 rfl rfl hr rfl rfl (Nat.le_of_ble_eq_true rfl) dX1_drawStep_82 (fun v29 w30 hv => ?_)
        replace h := h v29 w30 hv
        clear hr
        refine bw_puti fp_BentWords_Draws_29 rfl rfl rfl dX1_drawStep_85 ?_
        refine bw_goto (tgt := 151) dX1_drawStep_88 (by decide) ?_
        exact bw_return dX1_drawStep_151 rfl ⟨rfl, h⟩
    · replace h := h.2 (c)
      refine bw_aload_n (i := 1) dX1_drawStep_52 rfl rfl ?_
      refine bw_iconst (v := 1) dX1_drawStep_53 (by decide) ?_
      refine bw_puti fp_BentWords_Draws_23 rfl rfl rfl dX1_drawStep_54 ?_
      refine bw_aload_n (i := 1) dX1_drawStep_57 rfl rfl ?_
      refine bw_aload_n (i := 0) dX1_drawStep_58 rfl rfl ?_
      refine bw_iconst (v := 3) dX1_drawStep_59 (by decide) ?_
      obtain ⟨Q31, hr, h⟩ := h
      refine bw_cVi (As := [.int 3]) (st := [.ref 49]) cv_BentWords_Draws_19 rfl rfl hr rfl rfl (Nat.le_of_ble_eq_true rfl) dX1_drawStep_60 (fun v32 w33 hv => ?_)
      replace h := h v32 w33 hv
      clear hr
      refine bw_puti fp_BentWords_Draws_29 rfl rfl rfl dX1_drawStep_63 ?_
      refine bw_goto (tgt := 151) dX1_drawStep_66 (by decide) ?_
      exact bw_return dX1_drawStep_151 rfl ⟨rfl, h⟩
  · replace h := h.2 (c)
    refine bw_aload_n (i := 1) dX1_drawStep_12 rfl rfl ?_
    refine bw_iconst (v := 0) dX1_drawStep_13 (by decide) ?_
    refine bw_puti fp_BentWords_Draws_23 rfl rfl rfl dX1_drawStep_14 ?_
    refine bw_aload_n (i := 1) dX1_drawStep_17 rfl rfl ?_
    refine bw_aload_n (i := 0) dX1_drawStep_18 rfl rfl ?_
    refine bw_iconst (v := 3) dX1_drawStep_19 (by decide) ?_
    obtain ⟨Q34, hr, h⟩ := h
    refine bw_cVi (As := [.int 3]) (st := [.ref 49]) cv_BentWords_Draws_19 rfl rfl hr rfl rfl (Nat.le_of_ble_eq_true rfl) dX1_drawStep_20 (fun v35 w36 hv => ?_)
    replace h := h v35 w36 hv
    clear hr
    refine bw_puti fp_BentWords_Draws_29 rfl rfl rfl dX1_drawStep_23 ?_
    refine bw_aload_n (i := 1) dX1_drawStep_26 rfl rfl ?_
    refine bw_aload_n (i := 0) dX1_drawStep_27 rfl rfl ?_
    refine bw_iload_n (i := 2) dX1_drawStep_28 rfl rfl ?_
    obtain ⟨Q37, hr, h⟩ := h
    refine bw_cVi (As := [.int a1]) (st := [.ref 49]) cv_BentWords_Draws_19 rfl rfl hr rfl rfl (Nat.le_of_ble_eq_true rfl) dX1_drawStep_29 (fun v38 w39 hv => ?_)
    replace h := h v38 w39 hv
    clear hr
    refine bw_puti fp_BentWords_Draws_32 rfl rfl rfl dX1_drawStep_32 ?_
    refine bw_aload_n (i := 1) dX1_drawStep_35 rfl rfl ?_
    refine bw_aload_n (i := 0) dX1_drawStep_36 rfl rfl ?_
    refine bw_iconst (v := 4) dX1_drawStep_37 (by decide) ?_
    obtain ⟨Q40, hr, h⟩ := h
    refine bw_cVi (As := [.int 4]) (st := [.ref 49]) cv_BentWords_Draws_19 rfl rfl hr rfl rfl (Nat.le_of_ble_eq_true rfl) dX1_drawStep_38 (fun v41 w42 hv => ?_)
    replace h := h v41 w42 hv
    clear hr
    refine bw_puti fp_BentWords_Draws_35 rfl rfl rfl dX1_drawStep_41 ?_
    refine bw_goto (tgt := 151) dX1_drawStep_44 (by decide) ?_
    exact bw_return dX1_drawStep_151 rfl ⟨rfl, h⟩
theorem wfX4_readNoun {E : bw_E} {d : Nat} {w : bw_W} {Q : Bool → bw_W → Prop} {a0 : Int32}  (h : (((gw_i w 5 0) < 6 → (∃ Q1 : Bool → bw_W → Prop, bw_rb E (d + 1) mX0_takeWord [.ref 3] w Q1 ∧ ∀ v2 w3, Q1 v2 w3 →
((v2 = true → (∃ Q4 : Int32 → bw_W → Prop, bw_ri E (d + 1) mX3_nounNamed [.ref 5, .long (gw_l w3 3 5)] w3 Q4 ∧ ∀ v5 w6, Q4 v5 w6 →
((v5 = (-1) → (vp_in (gw_i w 5 0) 6) ∧
(∃ Q8 : Bool → bw_W → Prop, bw_rb E (d + 1) mX0_takeNumber [.ref 3, .int 1, .int 2] (sw_l w6 6 ((gw_i w 5 0).toNatClampNeg) (gw_l w6 3 5)) Q8 ∧ ∀ v9 w10, Q8 v9 w10 →
((v9 = true → (vp_in (gw_i w 5 0) 6) ∧
Q true (sw_i (sw_i w10 7 ((gw_i w 5 0).toNatClampNeg) (gw_i w10 3 4)) 5 0 ((gw_i w10 5 0) + 1))) ∧ (v9 = false → Q false w10)))) ∧ (¬ (v5 = (-1)) → Q (decide False) (sw_i w6 3 3 (gw_i w6 3 2)))))) ∧ (v2 = false → Q false w3)))) ∧ (¬ ((gw_i w 5 0) < 6) → Q (decide False) (sw_i w 3 3 a0)))) : bw_rb E (d + 2) mX4_readNoun [.ref 4, .int a0] w Q := by
  refine bw_enter rfl (Nat.le_of_ble_eq_true rfl) ?_
  refine bw_aload_n (i := 0) dX4_readNoun_0 rfl rfl ?_
  refine bw_getr (r := 5) fg_BentWords_LexiconReader_18 rfl rfl dX4_readNoun_1 ?_
  refine bw_geti fg_BentWords_LexiconReader_41 rfl dX4_readNoun_4 ?_
  refine bw_istore_n (i := 2) (L' := [some (.ref 4), some (.int a0), some (.int (gw_i w 5 0))]) dX4_readNoun_7 rfl (Nat.le_of_ble_eq_true rfl) rfl ?_
  refine bw_iload_n (i := 2) dX4_readNoun_8 rfl rfl ?_
  refine bw_bipush (v := 6) dX4_readNoun_9 (by decide) ?_
  refine bw_icmp_lt (tgt := 23) dX4_readNoun_11 (by decide) (fun c => ?_) (fun c => ?_)
  · replace h := h.1 (c)
    refine bw_aload_n (i := 0) dX4_readNoun_23 rfl rfl ?_
    refine bw_getr (r := 3) fg_BentWords_LexiconReader_9 rfl rfl dX4_readNoun_24 ?_
    obtain ⟨Q1, hr, h⟩ := h
    refine bw_cVb (As := []) (st := []) cv_BentWords_LexiconReader_51 rfl rfl hr rfl rfl (Nat.le_of_ble_eq_true rfl) dX4_readNoun_27 (fun v2 w3 hv => ?_)
    replace h := h v2 w3 hv
    clear hr
    refine bw_ifb_ne (tgt := 35) dX4_readNoun_30 (by decide) (fun c => ?_) (fun c => ?_)
    · replace h := h.1 (c)
      refine bw_aload_n (i := 0) dX4_readNoun_35 rfl rfl ?_
      refine bw_getr (r := 5) fg_BentWords_LexiconReader_18 rfl rfl dX4_readNoun_36 ?_
      refine bw_aload_n (i := 0) dX4_readNoun_39 rfl rfl ?_
      refine bw_getr (r := 3) fg_BentWords_LexiconReader_9 rfl rfl dX4_readNoun_40 ?_
      refine bw_getl fg_BentWords_LexiconReader_95 rfl dX4_readNoun_43 ?_
      obtain ⟨Q4, hr, h⟩ := h
      refine bw_cVi (As := [.long (gw_l w3 3 5)]) (st := []) cv_BentWords_LexiconReader_99 rfl rfl hr rfl rfl (Nat.le_of_ble_eq_true rfl) dX4_readNoun_46 (fun v5 w6 hv => ?_)
      replace h := h v5 w6 hv
      clear hr
      refine bw_iconst (v := (-1)) dX4_readNoun_49 (by decide) ?_
      refine bw_icmp_eq (tgt := 68) dX4_readNoun_50 (by decide) (fun c => ?_) (fun c => ?_)
      · replace h := h.1 (c)
        refine bw_aload_n (i := 0) dX4_readNoun_68 rfl rfl ?_
        refine bw_getr (r := 5) fg_BentWords_LexiconReader_18 rfl rfl dX4_readNoun_69 ?_
        refine bw_getr (r := 6) fg_BentWords_LexiconReader_103 rfl rfl dX4_readNoun_72 ?_
        refine bw_iload_n (i := 2) dX4_readNoun_75 rfl rfl ?_
        refine bw_aload_n (i := 0) dX4_readNoun_76 rfl rfl ?_
        refine bw_getr (r := 3) fg_BentWords_LexiconReader_9 rfl rfl dX4_readNoun_77 ?_
        refine bw_getl fg_BentWords_LexiconReader_95 rfl dX4_readNoun_80 ?_
        obtain ⟨hi7, h⟩ := h
        refine bw_lastore rfl hi7 dX4_readNoun_83 ?_
        refine bw_aload_n (i := 0) dX4_readNoun_84 rfl rfl ?_
        refine bw_getr (r := 3) fg_BentWords_LexiconReader_9 rfl rfl dX4_readNoun_85 ?_
        refine bw_iconst (v := 1) dX4_readNoun_88 (by decide) ?_
        refine bw_iconst (v := 2) dX4_readNoun_89 (by decide) ?_
        obtain ⟨Q8, hr, h⟩ := h
        refine bw_cVb (As := [.int 1, .int 2]) (st := []) cv_BentWords_LexiconReader_106 rfl rfl hr rfl rfl (Nat.le_of_ble_eq_true rfl) dX4_readNoun_90 (fun v9 w10 hv => ?_)
        replace h := h v9 w10 hv
        clear hr
        refine bw_ifb_ne (tgt := 98) dX4_readNoun_93 (by decide) (fun c => ?_) (fun c => ?_)
        · replace h := h.1 (c)
          refine bw_aload_n (i := 0) dX4_readNoun_98 rfl rfl ?_
          refine bw_getr (r := 5) fg_BentWords_LexiconReader_18 rfl rfl dX4_readNoun_99 ?_
          refine bw_getr (r := 7) fg_BentWords_LexiconReader_110 rfl rfl dX4_readNoun_102 ?_
          refine bw_iload_n (i := 2) dX4_readNoun_105 rfl rfl ?_
          refine bw_aload_n (i := 0) dX4_readNoun_106 rfl rfl ?_
          refine bw_getr (r := 3) fg_BentWords_LexiconReader_9 rfl rfl dX4_readNoun_107 ?_
          refine bw_geti fg_BentWords_LexiconReader_114 rfl dX4_readNoun_110 ?_
          obtain ⟨hi11, h⟩ := h
          refine bw_iastore rfl hi11 dX4_readNoun_113 ?_
          refine bw_aload_n (i := 0) dX4_readNoun_114 rfl rfl ?_
          refine bw_getr (r := 5) fg_BentWords_LexiconReader_18 rfl rfl dX4_readNoun_115 ?_
          refine bw_dup dX4_readNoun_118 rfl ?_
          refine bw_geti fg_BentWords_LexiconReader_41 rfl dX4_readNoun_119 ?_
          rw [show gw_i (sw_i w10 7 ((gw_i w 5 0).toNatClampNeg) (gw_i w10 3 4)) 5 0 = (gw_i w10 5 0) from rfl]
          refine bw_iconst (v := 1) dX4_readNoun_122 (by decide) ?_
          refine bw_iadd dX4_readNoun_123 ?_
          refine bw_puti fp_BentWords_LexiconReader_41 rfl rfl rfl dX4_readNoun_124 ?_
          refine bw_iconst (v := 1) dX4_readNoun_127 (by decide) ?_
          exact bw_ireturn dX4_readNoun_128 rfl (bw_nb true) ⟨true, rfl, h⟩
        · replace h := h.2 (c)
          refine bw_iconst (v := 0) dX4_readNoun_96 (by decide) ?_
          exact bw_ireturn dX4_readNoun_97 rfl (bw_nb false) ⟨false, rfl, h⟩
      · replace h := h.2 (c)
        refine bw_aload_n (i := 0) dX4_readNoun_53 rfl rfl ?_
        refine bw_getr (r := 3) fg_BentWords_LexiconReader_9 rfl rfl dX4_readNoun_54 ?_
        refine bw_aload_n (i := 0) dX4_readNoun_57 rfl rfl ?_
        refine bw_getr (r := 3) fg_BentWords_LexiconReader_9 rfl rfl dX4_readNoun_58 ?_
        refine bw_geti fg_BentWords_LexiconReader_54 rfl dX4_readNoun_61 ?_
        refine bw_cVb (As := [.int (gw_i w6 3 2)]) (st := []) (Q' := (fun v w1 => (decide False) = v ∧ (sw_i w6 3 3 (gw_i w6 3 2)) = w1)) cv_BentWords_LexiconReader_92 rfl rfl (fs_X0_fail (d := d + 1) (a0 := (gw_i w6 3 2))  ⟨rfl, rfl⟩) rfl rfl (Nat.le_of_ble_eq_true rfl) dX4_readNoun_64 (fun v w1 hv => ?_)
        obtain ⟨rfl, rfl⟩ := hv
        exact bw_ireturn dX4_readNoun_67 rfl (bw_nb _) ⟨_, rfl, h⟩
    · replace h := h.2 (c)
      refine bw_iconst (v := 0) dX4_readNoun_33 (by decide) ?_
      exact bw_ireturn dX4_readNoun_34 rfl (bw_nb false) ⟨false, rfl, h⟩
  · replace h := h.2 (c)
    refine bw_aload_n (i := 0) dX4_readNoun_14 rfl rfl ?_
    refine bw_getr (r := 3) fg_BentWords_LexiconReader_9 rfl rfl dX4_readNoun_15 ?_
    refine bw_iload_n (i := 1) dX4_readNoun_18 rfl rfl ?_
    refine bw_cVb (As := [.int a0]) (st := []) (Q' := (fun v w1 => (decide False) = v ∧ (sw_i w 3 3 a0) = w1)) cv_BentWords_LexiconReader_92 rfl rfl (fs_X0_fail (d := d + 1) (a0 := a0)  ⟨rfl, rfl⟩) rfl rfl (Nat.le_of_ble_eq_true rfl) dX4_readNoun_19 (fun v w1 hv => ?_)
    obtain ⟨rfl, rfl⟩ := hv
    exact bw_ireturn dX4_readNoun_22 rfl (bw_nb _) ⟨_, rfl, h⟩
theorem wfX4_readWordOnce {E : bw_E} {d : Nat} {w : bw_W} {Q : Bool → bw_W → Prop} {a0 : Int32} {tn : Nat} {ta : Nat} {a2 : Int32} (h_ta : bw_sh ta = (2, tn, 0)) (h : (vp_in a2 tn) ∧
(((gw_l w ta (a2.toNatClampNeg)) = 0 → (∃ Q2 : Bool → bw_W → Prop, bw_rb E (d + 1) mX0_takeWord [.ref 3] w Q2 ∧ ∀ v3 w4, Q2 v3 w4 →
((v3 = true → (vp_in a2 tn) ∧
Q true (sw_l w4 ta (a2.toNatClampNeg) (gw_l w4 3 5))) ∧ (v3 = false → Q false w4)))) ∧ (¬ (gw_l w ta (a2.toNatClampNeg)) = 0 → Q (decide False) (sw_i w 3 3 a0)))) : bw_rb E (d + 2) mX4_readWordOnce [.ref 4, .int a0, .ref ta, .int a2] w Q := by
  refine bw_enter rfl (Nat.le_of_ble_eq_true rfl) ?_
  refine bw_aload_n (i := 2) dX4_readWordOnce_0 rfl rfl ?_
  refine bw_iload_n (i := 3) dX4_readWordOnce_1 rfl rfl ?_
  obtain ⟨hi1, h⟩ := h
  refine bw_laload h_ta hi1 dX4_readWordOnce_2 ?_
  refine bw_lconst (v := 0) dX4_readWordOnce_3 rfl ?_
  refine bw_lcmp_eq (tgt := 17) dX4_readWordOnce_4 dX4_readWordOnce_5 (by decide) (fun c => ?_) (fun c => ?_)
  · replace h := h.1 (c)
    refine bw_aload_n (i := 0) dX4_readWordOnce_17 rfl rfl ?_
    refine bw_getr (r := 3) fg_BentWords_LexiconReader_9 rfl rfl dX4_readWordOnce_18 ?_
    obtain ⟨Q2, hr, h⟩ := h
    refine bw_cVb (As := []) (st := []) cv_BentWords_LexiconReader_51 rfl rfl hr rfl rfl (Nat.le_of_ble_eq_true rfl) dX4_readWordOnce_21 (fun v3 w4 hv => ?_)
    replace h := h v3 w4 hv
    clear hr
    refine bw_ifb_ne (tgt := 29) dX4_readWordOnce_24 (by decide) (fun c => ?_) (fun c => ?_)
    · replace h := h.1 (c)
      refine bw_aload_n (i := 2) dX4_readWordOnce_29 rfl rfl ?_
      refine bw_iload_n (i := 3) dX4_readWordOnce_30 rfl rfl ?_
      refine bw_aload_n (i := 0) dX4_readWordOnce_31 rfl rfl ?_
      refine bw_getr (r := 3) fg_BentWords_LexiconReader_9 rfl rfl dX4_readWordOnce_32 ?_
      refine bw_getl fg_BentWords_LexiconReader_95 rfl dX4_readWordOnce_35 ?_
      obtain ⟨hi5, h⟩ := h
      refine bw_lastore h_ta hi5 dX4_readWordOnce_38 ?_
      refine bw_iconst (v := 1) dX4_readWordOnce_39 (by decide) ?_
      exact bw_ireturn dX4_readWordOnce_40 rfl (bw_nb true) ⟨true, rfl, h⟩
    · replace h := h.2 (c)
      refine bw_iconst (v := 0) dX4_readWordOnce_27 (by decide) ?_
      exact bw_ireturn dX4_readWordOnce_28 rfl (bw_nb false) ⟨false, rfl, h⟩
  · replace h := h.2 (c)
    refine bw_aload_n (i := 0) dX4_readWordOnce_8 rfl rfl ?_
    refine bw_getr (r := 3) fg_BentWords_LexiconReader_9 rfl rfl dX4_readWordOnce_9 ?_
    refine bw_iload_n (i := 1) dX4_readWordOnce_12 rfl rfl ?_
    refine bw_cVb (As := [.int a0]) (st := []) (Q' := (fun v w1 => (decide False) = v ∧ (sw_i w 3 3 a0) = w1)) cv_BentWords_LexiconReader_92 rfl rfl (fs_X0_fail (d := d + 1) (a0 := a0)  ⟨rfl, rfl⟩) rfl rfl (Nat.le_of_ble_eq_true rfl) dX4_readWordOnce_13 (fun v w1 hv => ?_)
    obtain ⟨rfl, rfl⟩ := hv
    exact bw_ireturn dX4_readWordOnce_16 rfl (bw_nb _) ⟨_, rfl, h⟩
theorem wfX4_isAtClauseEnd {E : bw_E} {d : Nat} {w : bw_W} {Q : Bool → bw_W → Prop}   (h : (∃ Q1 : Int32 → bw_W → Prop, bw_ri E (d + 1) mX0_nextSign [.ref 3] w Q1 ∧ ∀ v2 w3, Q1 v2 w3 →
((v2 = 0 → Q true w3) ∧ (¬ (v2 = 0) → ((¬ v2 = 59 → Q false w3) ∧ (v2 = 59 → Q true w3)))))) : bw_rb E (d + 2) mX4_isAtClauseEnd [.ref 4] w Q := by
  refine bw_enter rfl (Nat.le_of_ble_eq_true rfl) ?_
  refine bw_aload_n (i := 0) dX4_isAtClauseEnd_0 rfl rfl ?_
  refine bw_getr (r := 3) fg_BentWords_LexiconReader_9 rfl rfl dX4_isAtClauseEnd_1 ?_
  obtain ⟨Q1, hr, h⟩ := h
  refine bw_cVi (As := []) (st := []) cv_BentWords_LexiconReader_47 rfl rfl hr rfl rfl (Nat.le_of_ble_eq_true rfl) dX4_isAtClauseEnd_4 (fun v2 w3 hv => ?_)
  replace h := h v2 w3 hv
  clear hr
  refine bw_istore_n (i := 1) (L' := [some (.ref 4), some (.int v2)]) dX4_isAtClauseEnd_7 rfl (Nat.le_of_ble_eq_true rfl) rfl ?_
  refine bw_iload_n (i := 1) dX4_isAtClauseEnd_8 rfl rfl ?_
  refine bw_if_eq (tgt := 18) dX4_isAtClauseEnd_9 (by decide) (fun c => ?_) (fun c => ?_)
  · replace h := h.1 (c)
    refine bw_iconst (v := 1) dX4_isAtClauseEnd_18 (by decide) ?_
    refine bw_goto (tgt := 23) dX4_isAtClauseEnd_19 (by decide) ?_
    exact bw_ireturn dX4_isAtClauseEnd_23 rfl (bw_nb true) ⟨true, rfl, h⟩
  · replace h := h.2 (c)
    refine bw_iload_n (i := 1) dX4_isAtClauseEnd_12 rfl rfl ?_
    refine bw_bipush (v := 59) dX4_isAtClauseEnd_13 (by decide) ?_
    refine bw_icmp_ne (tgt := 22) dX4_isAtClauseEnd_15 (by decide) (fun c => ?_) (fun c => ?_)
    · replace h := h.1 (c)
      refine bw_iconst (v := 0) dX4_isAtClauseEnd_22 (by decide) ?_
      exact bw_ireturn dX4_isAtClauseEnd_23 rfl (bw_nb false) ⟨false, rfl, h⟩
    · replace h := h.2 (c)
      refine bw_iconst (v := 1) dX4_isAtClauseEnd_18 (by decide) ?_
      refine bw_goto (tgt := 23) dX4_isAtClauseEnd_19 (by decide) ?_
      exact bw_ireturn dX4_isAtClauseEnd_23 rfl (bw_nb true) ⟨true, rfl, h⟩
theorem wfX4_readItem {E : bw_E} {d : Nat} {w : bw_W} {Q : Bool → bw_W → Prop} {a0 : Int32}  (h : (∃ Q1 : Int32 → bw_W → Prop, bw_ri E (d + 1) mX0_nextSign [.ref 3] w Q1 ∧ ∀ v2 w3, Q1 v2 w3 →
(∃ Q4 : Bool → bw_W → Prop, bw_rb E (d + 1) mX4_isItemSign [.int v2] w3 Q4 ∧ ∀ v5 w6, Q4 v5 w6 →
((v5 = true → (vp_in a0 32) ∧
(∃ Q8 : Bool → bw_W → Prop, bw_rb E (d + 1) mX0_takeNumber [.ref 3, .int 1, .int 2] (sw_i (sw_i w6 3 1 ((gw_i w6 3 1) + 1)) 13 (a0.toNatClampNeg) (vp_nar .char v2)) Q8 ∧ ∀ v9 w10, Q8 v9 w10 →
((v9 = true → (vp_in a0 32) ∧
((¬ v2 = 36 → ((v2 = 61 → (∃ Q12 : Bool → bw_W → Prop, bw_rb E (d + 1) mX0_takeNumber [.ref 3, .int 1, .int 2] (sw_i w10 14 (a0.toNatClampNeg) (gw_i w10 3 4)) Q12 ∧ ∀ v13 w14, Q12 v13 w14 →
((v13 = true → (vp_in a0 32) ∧
(vp_in a0 32) ∧
((¬ (gw_i w14 3 4) = (gw_i w14 14 (a0.toNatClampNeg)) → Q true (sw_i w14 15 (a0.toNatClampNeg) (gw_i w14 3 4))) ∧ ((gw_i w14 3 4) = (gw_i w14 14 (a0.toNatClampNeg)) → ((¬ False → Q false (sw_i (sw_i w14 15 (a0.toNatClampNeg) (gw_i w14 3 4)) 3 3 (gw_i w14 3 2))) ∧ (False → Q true (sw_i (sw_i w14 15 (a0.toNatClampNeg) (gw_i w14 3 4)) 3 3 (gw_i w14 3 2))))))) ∧ (v13 = false → Q false w14)))) ∧ (¬ (v2 = 61) → ((¬ v2 = 33 → (∃ Q17 : Bool → bw_W → Prop, bw_rb E (d + 1) mX0_takeNumber [.ref 3, .int 1, .int 3] (sw_i w10 14 (a0.toNatClampNeg) (gw_i w10 3 4)) Q17 ∧ ∀ v18 w19, Q17 v18 w19 →
((v18 = true → (vp_in a0 32) ∧
Q true (sw_i w19 15 (a0.toNatClampNeg) (gw_i w19 3 4))) ∧ (v18 = false → Q false w19)))) ∧ (v2 = 33 → (∃ Q21 : Bool → bw_W → Prop, bw_rb E (d + 1) mX0_takeNumber [.ref 3, .int 1, .int 2] (sw_i w10 14 (a0.toNatClampNeg) (gw_i w10 3 4)) Q21 ∧ ∀ v22 w23, Q21 v22 w23 →
((v22 = true → (vp_in a0 32) ∧
(vp_in a0 32) ∧
((¬ (gw_i w23 3 4) = (gw_i w23 14 (a0.toNatClampNeg)) → Q true (sw_i w23 15 (a0.toNatClampNeg) (gw_i w23 3 4))) ∧ ((gw_i w23 3 4) = (gw_i w23 14 (a0.toNatClampNeg)) → ((¬ False → Q false (sw_i (sw_i w23 15 (a0.toNatClampNeg) (gw_i w23 3 4)) 3 3 (gw_i w23 3 2))) ∧ (False → Q true (sw_i (sw_i w23 15 (a0.toNatClampNeg) (gw_i w23 3 4)) 3 3 (gw_i w23 3 2))))))) ∧ (v22 = false → Q false w23)))))))) ∧ (v2 = 36 → Q true (sw_i w10 14 (a0.toNatClampNeg) (gw_i w10 3 4))))) ∧ (v9 = false → Q false w10)))) ∧ (v5 = false → (∃ Q26 : Bool → bw_W → Prop, bw_rb E (d + 1) mX0_takeWord [.ref 3] w6 Q26 ∧ ∀ v27 w28, Q26 v27 w28 →
(vp_in a0 32) ∧
(vp_in a0 32) ∧
Q v27 (sw_l (sw_i w28 13 (a0.toNatClampNeg) (vp_nar .char 119)) 16 (a0.toNatClampNeg) (gw_l w28 3 5)))))))) : bw_rb E (d + 2) mX4_readItem [.ref 4, .int a0] w Q := by
  refine bw_enter rfl (Nat.le_of_ble_eq_true rfl) ?_
  refine bw_aload_n (i := 0) dX4_readItem_0 rfl rfl ?_
  refine bw_getr (r := 3) fg_BentWords_LexiconReader_9 rfl rfl dX4_readItem_1 ?_
  obtain ⟨Q1, hr, h⟩ := h
  refine bw_cVi (As := []) (st := []) cv_BentWords_LexiconReader_47 rfl rfl hr rfl rfl (Nat.le_of_ble_eq_true rfl) dX4_readItem_4 (fun v2 w3 hv => ?_)
  replace h := h v2 w3 hv
  clear hr
  refine bw_istore_n (i := 2) (L' := [some (.ref 4), some (.int a0), some (.int v2), none]) dX4_readItem_7 rfl (Nat.le_of_ble_eq_true rfl) rfl ?_
  refine bw_iload_n (i := 2) dX4_readItem_8 rfl rfl ?_
  obtain ⟨Q4, hr, h⟩ := h
  refine bw_cSb (As := [.int v2]) (st := []) cs_BentWords_LexiconReader_151 hr rfl rfl (Nat.le_of_ble_eq_true rfl) dX4_readItem_9 (fun v5 w6 hv => ?_)
  replace h := h v5 w6 hv
  clear hr
  refine bw_ifb_ne (tgt := 52) dX4_readItem_12 (by decide) (fun c => ?_) (fun c => ?_)
  · replace h := h.1 (c)
    refine bw_aload_n (i := 0) dX4_readItem_52 rfl rfl ?_
    refine bw_getr (r := 3) fg_BentWords_LexiconReader_9 rfl rfl dX4_readItem_53 ?_
    refine bw_dup dX4_readItem_56 rfl ?_
    refine bw_geti fg_BentWords_LexiconReader_44 rfl dX4_readItem_57 ?_
    refine bw_iconst (v := 1) dX4_readItem_60 (by decide) ?_
    refine bw_iadd dX4_readItem_61 ?_
    refine bw_puti fp_BentWords_LexiconReader_44 rfl rfl rfl dX4_readItem_62 ?_
    refine bw_aload_n (i := 0) dX4_readItem_65 rfl rfl ?_
    refine bw_getr (r := 5) fg_BentWords_LexiconReader_18 rfl rfl dX4_readItem_66 ?_
    refine bw_getr (r := 13) fg_BentWords_LexiconReader_155 rfl rfl dX4_readItem_69 ?_
    refine bw_iload_n (i := 1) dX4_readItem_72 rfl rfl ?_
    refine bw_iload_n (i := 2) dX4_readItem_73 rfl rfl ?_
    obtain ⟨hi7, h⟩ := h
    refine bw_castore rfl hi7 dX4_readItem_74 ?_
    refine bw_aload_n (i := 0) dX4_readItem_75 rfl rfl ?_
    refine bw_getr (r := 3) fg_BentWords_LexiconReader_9 rfl rfl dX4_readItem_76 ?_
    refine bw_iconst (v := 1) dX4_readItem_79 (by decide) ?_
    refine bw_iconst (v := 2) dX4_readItem_80 (by decide) ?_
    obtain ⟨Q8, hr, h⟩ := h
    refine bw_cVb (As := [.int 1, .int 2]) (st := []) cv_BentWords_LexiconReader_106 rfl rfl hr rfl rfl (Nat.le_of_ble_eq_true rfl) dX4_readItem_81 (fun v9 w10 hv => ?_)
    replace h := h v9 w10 hv
    clear hr
    refine bw_ifb_ne (tgt := 89) dX4_readItem_84 (by decide) (fun c => ?_) (fun c => ?_)
    · replace h := h.1 (c)
      refine bw_aload_n (i := 0) dX4_readItem_89 rfl rfl ?_
      refine bw_getr (r := 5) fg_BentWords_LexiconReader_18 rfl rfl dX4_readItem_90 ?_
      refine bw_getr (r := 14) fg_BentWords_LexiconReader_162 rfl rfl dX4_readItem_93 ?_
      refine bw_iload_n (i := 1) dX4_readItem_96 rfl rfl ?_
      refine bw_aload_n (i := 0) dX4_readItem_97 rfl rfl ?_
      refine bw_getr (r := 3) fg_BentWords_LexiconReader_9 rfl rfl dX4_readItem_98 ?_
      refine bw_geti fg_BentWords_LexiconReader_114 rfl dX4_readItem_101 ?_
      obtain ⟨hi11, h⟩ := h
      refine bw_iastore rfl hi11 dX4_readItem_104 ?_
      refine bw_iload_n (i := 2) dX4_readItem_105 rfl rfl ?_
      refine bw_bipush (v := 36) dX4_readItem_106 (by decide) ?_
      refine bw_icmp_ne (tgt := 113) dX4_readItem_108 (by decide) (fun c => ?_) (fun c => ?_)
      · replace h := h.1 (c)
        refine bw_iload_n (i := 2) dX4_readItem_113 rfl rfl ?_
        refine bw_bipush (v := 61) dX4_readItem_114 (by decide) ?_
        refine bw_icmp_eq (tgt := 125) dX4_readItem_116 (by decide) (fun c => ?_) (fun c => ?_)
        · replace h := h.1 (c)
          refine bw_iconst (v := 1) dX4_readItem_125 (by decide) ?_
          refine bw_goto (tgt := 130) dX4_readItem_126 (by decide) ?_
          refine bw_istore_n (i := 3) (L' := [some (.ref 4), some (.int a0), some (.int v2), some (.int 1)]) dX4_readItem_130 rfl (Nat.le_of_ble_eq_true rfl) rfl ?_
          refine bw_aload_n (i := 0) dX4_readItem_131 rfl rfl ?_
          refine bw_getr (r := 3) fg_BentWords_LexiconReader_9 rfl rfl dX4_readItem_132 ?_
          refine bw_iconst (v := 1) dX4_readItem_135 (by decide) ?_
          refine bw_iload_n (i := 3) dX4_readItem_136 rfl rfl ?_
          refine bw_if_eq (tgt := 144) dX4_readItem_137 (by decide) (fun c => absurd c (by decide)) (fun _ => ?_)
          refine bw_iconst (v := 2) dX4_readItem_140 (by decide) ?_
          refine bw_goto (tgt := 145) dX4_readItem_141 (by decide) ?_
          obtain ⟨Q12, hr, h⟩ := h
          refine bw_cVb (As := [.int 1, .int 2]) (st := []) cv_BentWords_LexiconReader_106 rfl rfl hr rfl rfl (Nat.le_of_ble_eq_true rfl) dX4_readItem_145 (fun v13 w14 hv => ?_)
          replace h := h v13 w14 hv
          clear hr
          refine bw_ifb_ne (tgt := 153) dX4_readItem_148 (by decide) (fun c => ?_) (fun c => ?_)
          · replace h := h.1 (c)
            refine bw_aload_n (i := 0) dX4_readItem_153 rfl rfl ?_
            refine bw_getr (r := 5) fg_BentWords_LexiconReader_18 rfl rfl dX4_readItem_154 ?_
            refine bw_getr (r := 15) fg_BentWords_LexiconReader_165 rfl rfl dX4_readItem_157 ?_
            refine bw_iload_n (i := 1) dX4_readItem_160 rfl rfl ?_
            refine bw_aload_n (i := 0) dX4_readItem_161 rfl rfl ?_
            refine bw_getr (r := 3) fg_BentWords_LexiconReader_9 rfl rfl dX4_readItem_162 ?_
            refine bw_geti fg_BentWords_LexiconReader_114 rfl dX4_readItem_165 ?_
            obtain ⟨hi15, h⟩ := h
            refine bw_iastore rfl hi15 dX4_readItem_168 ?_
            refine bw_iload_n (i := 3) dX4_readItem_169 rfl rfl ?_
            refine bw_if_eq (tgt := 209) dX4_readItem_170 (by decide) (fun c => absurd c (by decide)) (fun _ => ?_)
            refine bw_aload_n (i := 0) dX4_readItem_173 rfl rfl ?_
            refine bw_getr (r := 3) fg_BentWords_LexiconReader_9 rfl rfl dX4_readItem_174 ?_
            refine bw_geti fg_BentWords_LexiconReader_114 rfl dX4_readItem_177 ?_
            rw [show gw_i (sw_i w14 15 (a0.toNatClampNeg) (gw_i w14 3 4)) 3 4 = (gw_i w14 3 4) from rfl]
            refine bw_aload_n (i := 0) dX4_readItem_180 rfl rfl ?_
            refine bw_getr (r := 5) fg_BentWords_LexiconReader_18 rfl rfl dX4_readItem_181 ?_
            refine bw_getr (r := 14) fg_BentWords_LexiconReader_162 rfl rfl dX4_readItem_184 ?_
            refine bw_iload_n (i := 1) dX4_readItem_187 rfl rfl ?_
            obtain ⟨hi16, h⟩ := h
            refine bw_iaload rfl hi16 dX4_readItem_188 ?_
            rw [show gw_i (sw_i w14 15 (a0.toNatClampNeg) (gw_i w14 3 4)) 14 (a0.toNatClampNeg) = (gw_i w14 14 (a0.toNatClampNeg)) from by first | rfl | (simp [gs_ii, gs_ll, gs_il, gs_li]; done)]
            refine bw_icmp_ne (tgt := 209) dX4_readItem_189 (by decide) (fun c => ?_) (fun c => ?_)
            · replace h := h.1 (c)
              refine bw_iconst (v := 1) dX4_readItem_209 (by decide) ?_
              refine bw_goto (tgt := 214) dX4_readItem_210 (by decide) ?_
              exact bw_ireturn dX4_readItem_214 rfl (bw_nb true) ⟨true, rfl, h⟩
            · replace h := h.2 (c)
              refine bw_aload_n (i := 0) dX4_readItem_192 rfl rfl ?_
              refine bw_getr (r := 3) fg_BentWords_LexiconReader_9 rfl rfl dX4_readItem_193 ?_
              refine bw_aload_n (i := 0) dX4_readItem_196 rfl rfl ?_
              refine bw_getr (r := 3) fg_BentWords_LexiconReader_9 rfl rfl dX4_readItem_197 ?_
              refine bw_geti fg_BentWords_LexiconReader_54 rfl dX4_readItem_200 ?_
              rw [show gw_i (sw_i w14 15 (a0.toNatClampNeg) (gw_i w14 3 4)) 3 2 = (gw_i w14 3 2) from rfl]
              refine bw_cVb (As := [.int (gw_i w14 3 2)]) (st := []) (Q' := (fun v w1 => (decide False) = v ∧ (sw_i (sw_i w14 15 (a0.toNatClampNeg) (gw_i w14 3 4)) 3 3 (gw_i w14 3 2)) = w1)) cv_BentWords_LexiconReader_92 rfl rfl (fs_X0_fail (d := d + 1) (a0 := (gw_i w14 3 2))  ⟨rfl, rfl⟩) rfl rfl (Nat.le_of_ble_eq_true rfl) dX4_readItem_203 (fun v w1 hv => ?_)
              obtain ⟨rfl, rfl⟩ := hv
              refine bw_ifb_eq (tgt := 213) dX4_readItem_206 (by decide) (fun c => ?_) (fun c => ?_)
              · replace h := h.1 (of_decide_eq_false c)
                refine bw_iconst (v := 0) dX4_readItem_213 (by decide) ?_
                exact bw_ireturn dX4_readItem_214 rfl (bw_nb false) ⟨false, rfl, h⟩
              · replace h := h.2 (of_decide_eq_true c)
                refine bw_iconst (v := 1) dX4_readItem_209 (by decide) ?_
                refine bw_goto (tgt := 214) dX4_readItem_210 (by decide) ?_
                exact bw_ireturn dX4_readItem_214 rfl (bw_nb true) ⟨true, rfl, h⟩
          · replace h := h.2 (c)
            refine bw_iconst (v := 0) dX4_readItem_151 (by decide) ?_
            exact bw_ireturn dX4_readItem_152 rfl (bw_nb false) ⟨false, rfl, h⟩
        · replace h := h.2 (c)
          refine bw_iload_n (i := 2) dX4_readItem_119 rfl rfl ?_
          refine bw_bipush (v := 33) dX4_readItem_120 (by decide) ?_
          refine bw_icmp_ne (tgt := 129) dX4_readItem_122 (by decide) (fun c => ?_) (fun c => ?_)
          · replace h := h.1 (c)
            refine bw_iconst (v := 0) dX4_readItem_129 (by decide) ?_
            refine bw_istore_n (i := 3) (L' := [some (.ref 4), some (.int a0), some (.int v2), some (.int 0)]) dX4_readItem_130 rfl (Nat.le_of_ble_eq_true rfl) rfl ?_
            refine bw_aload_n (i := 0) dX4_readItem_131 rfl rfl ?_
            refine bw_getr (r := 3) fg_BentWords_LexiconReader_9 rfl rfl dX4_readItem_132 ?_
            refine bw_iconst (v := 1) dX4_readItem_135 (by decide) ?_
            refine bw_iload_n (i := 3) dX4_readItem_136 rfl rfl ?_
            refine bw_if_eq (tgt := 144) dX4_readItem_137 (by decide) (fun _ => ?_) (fun c => absurd c (by decide))
            refine bw_iconst (v := 3) dX4_readItem_144 (by decide) ?_
            obtain ⟨Q17, hr, h⟩ := h
            refine bw_cVb (As := [.int 1, .int 3]) (st := []) cv_BentWords_LexiconReader_106 rfl rfl hr rfl rfl (Nat.le_of_ble_eq_true rfl) dX4_readItem_145 (fun v18 w19 hv => ?_)
            replace h := h v18 w19 hv
            clear hr
            refine bw_ifb_ne (tgt := 153) dX4_readItem_148 (by decide) (fun c => ?_) (fun c => ?_)
            · replace h := h.1 (c)
              refine bw_aload_n (i := 0) dX4_readItem_153 rfl rfl ?_
              refine bw_getr (r := 5) fg_BentWords_LexiconReader_18 rfl rfl dX4_readItem_154 ?_
              refine bw_getr (r := 15) fg_BentWords_LexiconReader_165 rfl rfl dX4_readItem_157 ?_
              refine bw_iload_n (i := 1) dX4_readItem_160 rfl rfl ?_
              refine bw_aload_n (i := 0) dX4_readItem_161 rfl rfl ?_
              refine bw_getr (r := 3) fg_BentWords_LexiconReader_9 rfl rfl dX4_readItem_162 ?_
              refine bw_geti fg_BentWords_LexiconReader_114 rfl dX4_readItem_165 ?_
              obtain ⟨hi20, h⟩ := h
              refine bw_iastore rfl hi20 dX4_readItem_168 ?_
              refine bw_iload_n (i := 3) dX4_readItem_169 rfl rfl ?_
              refine bw_if_eq (tgt := 209) dX4_readItem_170 (by decide) (fun _ => ?_) (fun c => absurd c (by decide))
              refine bw_iconst (v := 1) dX4_readItem_209 (by decide) ?_
              refine bw_goto (tgt := 214) dX4_readItem_210 (by decide) ?_
              exact bw_ireturn dX4_readItem_214 rfl (bw_nb true) ⟨true, rfl, h⟩
            · replace h := h.2 (c)
              refine bw_iconst (v := 0) dX4_readItem_151 (by decide) ?_
              exact bw_ireturn dX4_readItem_152 rfl (bw_nb false) ⟨false, rfl, h⟩
          · replace h := h.2 (c)
            refine bw_iconst (v := 1) dX4_readItem_125 (by decide) ?_
            refine bw_goto (tgt := 130) dX4_readItem_126 (by decide) ?_
            refine bw_istore_n (i := 3) (L' := [some (.ref 4), some (.int a0), some (.int v2), some (.int 1)]) dX4_readItem_130 rfl (Nat.le_of_ble_eq_true rfl) rfl ?_
            refine bw_aload_n (i := 0) dX4_readItem_131 rfl rfl ?_
            refine bw_getr (r := 3) fg_BentWords_LexiconReader_9 rfl rfl dX4_readItem_132 ?_
            refine bw_iconst (v := 1) dX4_readItem_135 (by decide) ?_
            refine bw_iload_n (i := 3) dX4_readItem_136 rfl rfl ?_
            refine bw_if_eq (tgt := 144) dX4_readItem_137 (by decide) (fun c => absurd c (by decide)) (fun _ => ?_)
            refine bw_iconst (v := 2) dX4_readItem_140 (by decide) ?_
            refine bw_goto (tgt := 145) dX4_readItem_141 (by decide) ?_
            obtain ⟨Q21, hr, h⟩ := h
            refine bw_cVb (As := [.int 1, .int 2]) (st := []) cv_BentWords_LexiconReader_106 rfl rfl hr rfl rfl (Nat.le_of_ble_eq_true rfl) dX4_readItem_145 (fun v22 w23 hv => ?_)
            replace h := h v22 w23 hv
            clear hr
            refine bw_ifb_ne (tgt := 153) dX4_readItem_148 (by decide) (fun c => ?_) (fun c => ?_)
            · replace h := h.1 (c)
              refine bw_aload_n (i := 0) dX4_readItem_153 rfl rfl ?_
              refine bw_getr (r := 5) fg_BentWords_LexiconReader_18 rfl rfl dX4_readItem_154 ?_
              refine bw_getr (r := 15) fg_BentWords_LexiconReader_165 rfl rfl dX4_readItem_157 ?_
              refine bw_iload_n (i := 1) dX4_readItem_160 rfl rfl ?_
              refine bw_aload_n (i := 0) dX4_readItem_161 rfl rfl ?_
              refine bw_getr (r := 3) fg_BentWords_LexiconReader_9 rfl rfl dX4_readItem_162 ?_
              refine bw_geti fg_BentWords_LexiconReader_114 rfl dX4_readItem_165 ?_
              obtain ⟨hi24, h⟩ := h
              refine bw_iastore rfl hi24 dX4_readItem_168 ?_
              refine bw_iload_n (i := 3) dX4_readItem_169 rfl rfl ?_
              refine bw_if_eq (tgt := 209) dX4_readItem_170 (by decide) (fun c => absurd c (by decide)) (fun _ => ?_)
              refine bw_aload_n (i := 0) dX4_readItem_173 rfl rfl ?_
              refine bw_getr (r := 3) fg_BentWords_LexiconReader_9 rfl rfl dX4_readItem_174 ?_
              refine bw_geti fg_BentWords_LexiconReader_114 rfl dX4_readItem_177 ?_
              rw [show gw_i (sw_i w23 15 (a0.toNatClampNeg) (gw_i w23 3 4)) 3 4 = (gw_i w23 3 4) from rfl]
              refine bw_aload_n (i := 0) dX4_readItem_180 rfl rfl ?_
              refine bw_getr (r := 5) fg_BentWords_LexiconReader_18 rfl rfl dX4_readItem_181 ?_
              refine bw_getr (r := 14) fg_BentWords_LexiconReader_162 rfl rfl dX4_readItem_184 ?_
              refine bw_iload_n (i := 1) dX4_readItem_187 rfl rfl ?_
              obtain ⟨hi25, h⟩ := h
              refine bw_iaload rfl hi25 dX4_readItem_188 ?_
              rw [show gw_i (sw_i w23 15 (a0.toNatClampNeg) (gw_i w23 3 4)) 14 (a0.toNatClampNeg) = (gw_i w23 14 (a0.toNatClampNeg)) from by first | rfl | (simp [gs_ii, gs_ll, gs_il, gs_li]; done)]
              refine bw_icmp_ne (tgt := 209) dX4_readItem_189 (by decide) (fun c => ?_) (fun c => ?_)
              · replace h := h.1 (c)
                refine bw_iconst (v := 1) dX4_readItem_209 (by decide) ?_
                refine bw_goto (tgt := 214) dX4_readItem_210 (by decide) ?_
                exact bw_ireturn dX4_readItem_214 rfl (bw_nb true) ⟨true, rfl, h⟩
              · replace h := h.2 (c)
                refine bw_aload_n (i := 0) dX4_readItem_192 rfl rfl ?_
                refine bw_getr (r := 3) fg_BentWords_LexiconReader_9 rfl rfl dX4_readItem_193 ?_
                refine bw_aload_n (i := 0) dX4_readItem_196 rfl rfl ?_
                refine bw_getr (r := 3) fg_BentWords_LexiconReader_9 rfl rfl dX4_readItem_197 ?_
                refine bw_geti fg_BentWords_LexiconReader_54 rfl dX4_readItem_200 ?_
                rw [show gw_i (sw_i w23 15 (a0.toNatClampNeg) (gw_i w23 3 4)) 3 2 = (gw_i w23 3 2) from rfl]
                refine bw_cVb (As := [.int (gw_i w23 3 2)]) (st := []) (Q' := (fun v w1 => (decide False) = v ∧ (sw_i (sw_i w23 15 (a0.toNatClampNeg) (gw_i w23 3 4)) 3 3 (gw_i w23 3 2)) = w1)) cv_BentWords_LexiconReader_92 rfl rfl (fs_X0_fail (d := d + 1) (a0 := (gw_i w23 3 2))  ⟨rfl, rfl⟩) rfl rfl (Nat.le_of_ble_eq_true rfl) dX4_readItem_203 (fun v w1 hv => ?_)
                obtain ⟨rfl, rfl⟩ := hv
                refine bw_ifb_eq (tgt := 213) dX4_readItem_206 (by decide) (fun c => ?_) (fun c => ?_)
                · replace h := h.1 (of_decide_eq_false c)
                  refine bw_iconst (v := 0) dX4_readItem_213 (by decide) ?_
                  exact bw_ireturn dX4_readItem_214 rfl (bw_nb false) ⟨false, rfl, h⟩
                · replace h := h.2 (of_decide_eq_true c)
                  refine bw_iconst (v := 1) dX4_readItem_209 (by decide) ?_
                  refine bw_goto (tgt := 214) dX4_readItem_210 (by decide) ?_
                  exact bw_ireturn dX4_readItem_214 rfl (bw_nb true) ⟨true, rfl, h⟩
            · replace h := h.2 (c)
              refine bw_iconst (v := 0) dX4_readItem_151 (by decide) ?_
              exact bw_ireturn dX4_readItem_152 rfl (bw_nb false) ⟨false, rfl, h⟩
      · replace h := h.2 (c)
        refine bw_iconst (v := 1) dX4_readItem_111 (by decide) ?_
        exact bw_ireturn dX4_readItem_112 rfl (bw_nb true) ⟨true, rfl, h⟩
    · replace h := h.2 (c)
      refine bw_iconst (v := 0) dX4_readItem_87 (by decide) ?_
      exact bw_ireturn dX4_readItem_88 rfl (bw_nb false) ⟨false, rfl, h⟩
  · replace h := h.2 (c)
    refine bw_aload_n (i := 0) dX4_readItem_15 rfl rfl ?_
    refine bw_getr (r := 3) fg_BentWords_LexiconReader_9 rfl rfl dX4_readItem_16 ?_
    obtain ⟨Q26, hr, h⟩ := h
    refine bw_cVb (As := []) (st := []) cv_BentWords_LexiconReader_51 rfl rfl hr rfl rfl (Nat.le_of_ble_eq_true rfl) dX4_readItem_19 (fun v27 w28 hv => ?_)
    replace h := h v27 w28 hv
    clear hr
    refine bw_istore_n (i := 3) (L' := [some (.ref 4), some (.int a0), some (.int v2), some (.int (bw_b v27))]) dX4_readItem_22 rfl (Nat.le_of_ble_eq_true rfl) rfl ?_
    refine bw_aload_n (i := 0) dX4_readItem_23 rfl rfl ?_
    refine bw_getr (r := 5) fg_BentWords_LexiconReader_18 rfl rfl dX4_readItem_24 ?_
    refine bw_getr (r := 13) fg_BentWords_LexiconReader_155 rfl rfl dX4_readItem_27 ?_
    refine bw_iload_n (i := 1) dX4_readItem_30 rfl rfl ?_
    refine bw_bipush (v := 119) dX4_readItem_31 (by decide) ?_
    obtain ⟨hi29, h⟩ := h
    refine bw_castore rfl hi29 dX4_readItem_33 ?_
    refine bw_aload_n (i := 0) dX4_readItem_34 rfl rfl ?_
    refine bw_getr (r := 5) fg_BentWords_LexiconReader_18 rfl rfl dX4_readItem_35 ?_
    refine bw_getr (r := 16) fg_BentWords_LexiconReader_159 rfl rfl dX4_readItem_38 ?_
    refine bw_iload_n (i := 1) dX4_readItem_41 rfl rfl ?_
    refine bw_aload_n (i := 0) dX4_readItem_42 rfl rfl ?_
    refine bw_getr (r := 3) fg_BentWords_LexiconReader_9 rfl rfl dX4_readItem_43 ?_
    refine bw_getl fg_BentWords_LexiconReader_95 rfl dX4_readItem_46 ?_
    rw [show gw_l (sw_i w28 13 (a0.toNatClampNeg) (vp_nar .char 119)) 3 5 = (gw_l w28 3 5) from rfl]
    obtain ⟨hi30, h⟩ := h
    refine bw_lastore rfl hi30 dX4_readItem_49 ?_
    refine bw_iload_n (i := 3) dX4_readItem_50 rfl rfl ?_
    exact bw_ireturn dX4_readItem_51 rfl (bw_nb _) ⟨_, rfl, h⟩
theorem wfX6_readA {E : bw_E} {d : Nat} {w : bw_W} {Q : Bool → bw_W → Prop} {sp : Nat} {a1 : Int32} (h_sp : bw_sh sp = (0, 8, 5)) (h : (∃ Q1 : Bool → bw_W → Prop, bw_rb E (d + 1) mX0_takeNumber [.ref 3, .int 1, .int a1] w Q1 ∧ ∀ v2 w3, Q1 v2 w3 →
Q v2 (sw_i w3 sp 1 (gw_i w3 3 4)))) : bw_rb E (d + 2) mX6_readA [.ref 17, .ref sp, .int a1] w Q := by
  refine bw_enter rfl (Nat.le_of_ble_eq_true rfl) ?_
  refine bw_aload_n (i := 0) dX6_readA_0 rfl rfl ?_
  refine bw_getr (r := 3) fg_BentWords_ScriptReader_9 rfl rfl dX6_readA_1 ?_
  refine bw_iconst (v := 1) dX6_readA_4 (by decide) ?_
  refine bw_iload_n (i := 2) dX6_readA_5 rfl rfl ?_
  obtain ⟨Q1, hr, h⟩ := h
  refine bw_cVb (As := [.int 1, .int a1]) (st := []) cv_BentWords_ScriptReader_97 rfl rfl hr rfl rfl (Nat.le_of_ble_eq_true rfl) dX6_readA_6 (fun v2 w3 hv => ?_)
  replace h := h v2 w3 hv
  clear hr
  refine bw_istore_n (i := 3) (L' := [some (.ref 17), some (.ref sp), some (.int a1), some (.int (bw_b v2))]) dX6_readA_9 rfl (Nat.le_of_ble_eq_true rfl) rfl ?_
  refine bw_aload_n (i := 1) dX6_readA_10 rfl rfl ?_
  refine bw_aload_n (i := 0) dX6_readA_11 rfl rfl ?_
  refine bw_getr (r := 3) fg_BentWords_ScriptReader_9 rfl rfl dX6_readA_12 ?_
  refine bw_geti fg_BentWords_ScriptReader_101 rfl dX6_readA_15 ?_
  refine bw_puti fp_BentWords_ScriptReader_104 h_sp rfl rfl dX6_readA_18 ?_
  refine bw_iload_n (i := 3) dX6_readA_21 rfl rfl ?_
  exact bw_ireturn dX6_readA_22 rfl (bw_nb _) ⟨_, rfl, h⟩
theorem wfX6_readB {E : bw_E} {d : Nat} {w : bw_W} {Q : Bool → bw_W → Prop} {sp : Nat} {a1 : Int32} (h_sp : bw_sh sp = (0, 8, 5)) (h : (∃ Q1 : Bool → bw_W → Prop, bw_rb E (d + 1) mX0_takeNumber [.ref 3, .int 1, .int a1] w Q1 ∧ ∀ v2 w3, Q1 v2 w3 →
Q v2 (sw_i w3 sp 2 (gw_i w3 3 4)))) : bw_rb E (d + 2) mX6_readB [.ref 17, .ref sp, .int a1] w Q := by
  refine bw_enter rfl (Nat.le_of_ble_eq_true rfl) ?_
  refine bw_aload_n (i := 0) dX6_readB_0 rfl rfl ?_
  refine bw_getr (r := 3) fg_BentWords_ScriptReader_9 rfl rfl dX6_readB_1 ?_
  refine bw_iconst (v := 1) dX6_readB_4 (by decide) ?_
  refine bw_iload_n (i := 2) dX6_readB_5 rfl rfl ?_
  obtain ⟨Q1, hr, h⟩ := h
  refine bw_cVb (As := [.int 1, .int a1]) (st := []) cv_BentWords_ScriptReader_97 rfl rfl hr rfl rfl (Nat.le_of_ble_eq_true rfl) dX6_readB_6 (fun v2 w3 hv => ?_)
  replace h := h v2 w3 hv
  clear hr
  refine bw_istore_n (i := 3) (L' := [some (.ref 17), some (.ref sp), some (.int a1), some (.int (bw_b v2))]) dX6_readB_9 rfl (Nat.le_of_ble_eq_true rfl) rfl ?_
  refine bw_aload_n (i := 1) dX6_readB_10 rfl rfl ?_
  refine bw_aload_n (i := 0) dX6_readB_11 rfl rfl ?_
  refine bw_getr (r := 3) fg_BentWords_ScriptReader_9 rfl rfl dX6_readB_12 ?_
  refine bw_geti fg_BentWords_ScriptReader_101 rfl dX6_readB_15 ?_
  refine bw_puti fp_BentWords_ScriptReader_107 h_sp rfl rfl dX6_readB_18 ?_
  refine bw_iload_n (i := 3) dX6_readB_21 rfl rfl ?_
  exact bw_ireturn dX6_readB_22 rfl (bw_nb _) ⟨_, rfl, h⟩
theorem wfX6_readCount {E : bw_E} {d : Nat} {w : bw_W} {Q : Bool → bw_W → Prop} {sp : Nat} (h_sp : bw_sh sp = (0, 8, 5)) (h : (∃ Q1 : Bool → bw_W → Prop, bw_rb E (d + 1) mX0_takeNumber [.ref 3, .int 2, .int 99] w Q1 ∧ ∀ v2 w3, Q1 v2 w3 →
Q v2 (sw_i w3 sp 3 (gw_i w3 3 4)))) : bw_rb E (d + 2) mX6_readCount [.ref 17, .ref sp] w Q := by
  refine bw_enter rfl (Nat.le_of_ble_eq_true rfl) ?_
  refine bw_aload_n (i := 0) dX6_readCount_0 rfl rfl ?_
  refine bw_getr (r := 3) fg_BentWords_ScriptReader_9 rfl rfl dX6_readCount_1 ?_
  refine bw_iconst (v := 2) dX6_readCount_4 (by decide) ?_
  refine bw_bipush (v := 99) dX6_readCount_5 (by decide) ?_
  obtain ⟨Q1, hr, h⟩ := h
  refine bw_cVb (As := [.int 2, .int 99]) (st := []) cv_BentWords_ScriptReader_97 rfl rfl hr rfl rfl (Nat.le_of_ble_eq_true rfl) dX6_readCount_7 (fun v2 w3 hv => ?_)
  replace h := h v2 w3 hv
  clear hr
  refine bw_istore_n (i := 2) (L' := [some (.ref 17), some (.ref sp), some (.int (bw_b v2))]) dX6_readCount_10 rfl (Nat.le_of_ble_eq_true rfl) rfl ?_
  refine bw_aload_n (i := 1) dX6_readCount_11 rfl rfl ?_
  refine bw_aload_n (i := 0) dX6_readCount_12 rfl rfl ?_
  refine bw_getr (r := 3) fg_BentWords_ScriptReader_9 rfl rfl dX6_readCount_13 ?_
  refine bw_geti fg_BentWords_ScriptReader_101 rfl dX6_readCount_16 ?_
  refine bw_puti fp_BentWords_ScriptReader_110 h_sp rfl rfl dX6_readCount_19 ?_
  refine bw_iload_n (i := 2) dX6_readCount_22 rfl rfl ?_
  exact bw_ireturn dX6_readCount_23 rfl (bw_nb _) ⟨_, rfl, h⟩
theorem wfX6_readWord {E : bw_E} {d : Nat} {w : bw_W} {Q : Bool → bw_W → Prop} {sp : Nat} (h_sp : bw_sh sp = (0, 8, 5)) (h : (∃ Q1 : Bool → bw_W → Prop, bw_rb E (d + 1) mX0_takeWord [.ref 3] w Q1 ∧ ∀ v2 w3, Q1 v2 w3 →
Q v2 (sw_l w3 sp 4 (gw_l w3 3 5)))) : bw_rb E (d + 2) mX6_readWord [.ref 17, .ref sp] w Q := by
  refine bw_enter rfl (Nat.le_of_ble_eq_true rfl) ?_
  refine bw_aload_n (i := 0) dX6_readWord_0 rfl rfl ?_
  refine bw_getr (r := 3) fg_BentWords_ScriptReader_9 rfl rfl dX6_readWord_1 ?_
  obtain ⟨Q1, hr, h⟩ := h
  refine bw_cVb (As := []) (st := []) cv_BentWords_ScriptReader_48 rfl rfl hr rfl rfl (Nat.le_of_ble_eq_true rfl) dX6_readWord_4 (fun v2 w3 hv => ?_)
  replace h := h v2 w3 hv
  clear hr
  refine bw_istore_n (i := 2) (L' := [some (.ref 17), some (.ref sp), some (.int (bw_b v2))]) dX6_readWord_7 rfl (Nat.le_of_ble_eq_true rfl) rfl ?_
  refine bw_aload_n (i := 1) dX6_readWord_8 rfl rfl ?_
  refine bw_aload_n (i := 0) dX6_readWord_9 rfl rfl ?_
  refine bw_getr (r := 3) fg_BentWords_ScriptReader_9 rfl rfl dX6_readWord_10 ?_
  refine bw_getl fg_BentWords_ScriptReader_113 rfl dX6_readWord_13 ?_
  refine bw_putl fp_BentWords_ScriptReader_117 h_sp dX6_readWord_16 ?_
  refine bw_iload_n (i := 2) dX6_readWord_19 rfl rfl ?_
  exact bw_ireturn dX6_readWord_20 rfl (bw_nb _) ⟨_, rfl, h⟩
theorem wfX10_formAt {E : bw_E} {d : Nat} {w : bw_W} {Q : Int64 → bw_W → Prop} {a0 : Int32} {a1 : Int32}  (h : (∃ Q1 : Int64 → bw_W → Prop, bw_rl E (d + 1) mX10_formOf [.ref 35, .int a0, .int (a1 / 2), .int (a1 - a1 / 2 * 2)] w Q1 ∧ ∀ v2 w3, Q1 v2 w3 →
Q v2 w3)) : bw_rl E (d + 2) mX10_formAt [.ref 35, .int a0, .int a1] w Q := by
  refine bw_enter rfl (Nat.le_of_ble_eq_true rfl) ?_
  refine bw_aload_n (i := 0) dX10_formAt_0 rfl rfl ?_
  refine bw_iload_n (i := 1) dX10_formAt_1 rfl rfl ?_
  refine bw_iload_n (i := 2) dX10_formAt_2 rfl rfl ?_
  refine bw_iconst (v := 2) dX10_formAt_3 (by decide) ?_
  refine bw_idiv dX10_formAt_4 (by decide) ?_
  refine bw_iload_n (i := 2) dX10_formAt_5 rfl rfl ?_
  refine bw_iconst (v := 2) dX10_formAt_6 (by decide) ?_
  refine bw_irem dX10_formAt_7 (by decide) ?_
  obtain ⟨Q1, hr, h⟩ := h
  refine bw_cVl (As := [.int a0, .int (a1 / 2), .int (a1 - a1 / 2 * 2)]) (st := []) cv_BentWords_Teller_41 rfl rfl hr rfl rfl (Nat.le_of_ble_eq_true rfl) dX10_formAt_8 (fun v2 w3 hv => ?_)
  replace h := h v2 w3 hv
  clear hr
  exact bw_lreturn dX10_formAt_11 rfl ⟨_, rfl, h⟩
theorem wfX10_canTellItem {E : bw_E} {d : Nat} {w : bw_W} {Q : Bool → bw_W → Prop} {a0 : Int32}  (h : (vp_in a0 32) ∧
((¬ (gw_i w 26 (a0.toNatClampNeg)) = 119 → (vp_in a0 32) ∧
(((vp_in (48 + (gw_i w 27 (a0.toNatClampNeg))) 52))) ∧
((¬ ((gw_l w 32 ((48 + (gw_i w 27 (a0.toNatClampNeg))).toNatClampNeg)) = 0) → (((gw_i w 26 (a0.toNatClampNeg)) = 61 → (vp_in a0 32) ∧
(∃ Q5 : Bool → bw_W → Prop, bw_rb E (d + 1) mX10_agree [.ref 35, .int (gw_i w 26 (a0.toNatClampNeg)), .int (gw_i w 27 (a0.toNatClampNeg)), .int (gw_i w 28 (a0.toNatClampNeg))] w Q5 ∧ ∀ v6 w7, Q5 v6 w7 →
Q v6 w7)) ∧ (¬ ((gw_i w 26 (a0.toNatClampNeg)) = 61) → ((¬ (gw_i w 26 (a0.toNatClampNeg)) = 33 → (((gw_i w 26 (a0.toNatClampNeg)) = 36 → Q true w) ∧ (¬ ((gw_i w 26 (a0.toNatClampNeg)) = 36) → ((¬ (¬ (gw_l w 32 51) = 0) → Q true w) ∧ ((¬ (gw_l w 32 51) = 0) → (∃ Q8 : Bool → bw_W → Prop, bw_rb E (d + 1) mX10_isAllTold [.ref 35, .int a0] w Q8 ∧ ∀ v9 w10, Q8 v9 w10 →
((v9 = false → Q false w10) ∧ (v9 = true → Q true w10)))))))) ∧ ((gw_i w 26 (a0.toNatClampNeg)) = 33 → (vp_in a0 32) ∧
(∃ Q12 : Bool → bw_W → Prop, bw_rb E (d + 1) mX10_agree [.ref 35, .int (gw_i w 26 (a0.toNatClampNeg)), .int (gw_i w 27 (a0.toNatClampNeg)), .int (gw_i w 28 (a0.toNatClampNeg))] w Q12 ∧ ∀ v13 w14, Q12 v13 w14 →
Q v13 w14)))))) ∧ (((gw_l w 32 ((48 + (gw_i w 27 (a0.toNatClampNeg))).toNatClampNeg)) = 0) → Q (decide False) (sw_i (sw_i w 35 5 (gw_i w 27 (a0.toNatClampNeg))) 35 6 0)))) ∧ ((gw_i w 26 (a0.toNatClampNeg)) = 119 → Q true w))) : bw_rb E (d + 2) mX10_canTellItem [.ref 35, .int a0] w Q := by
  refine bw_enter rfl (Nat.le_of_ble_eq_true rfl) ?_
  refine bw_aload_n (i := 0) dX10_canTellItem_0 rfl rfl ?_
  refine bw_getr (r := 18) fg_BentWords_Teller_9 rfl rfl dX10_canTellItem_1 ?_
  refine bw_getr (r := 26) fg_BentWords_Teller_69 rfl rfl dX10_canTellItem_4 ?_
  refine bw_iload_n (i := 1) dX10_canTellItem_7 rfl rfl ?_
  obtain ⟨hi1, h⟩ := h
  refine bw_caload rfl hi1 dX10_canTellItem_8 ?_
  refine bw_istore_n (i := 2) (L' := [some (.ref 35), some (.int a0), some (.int (gw_i w 26 (a0.toNatClampNeg))), none]) dX10_canTellItem_9 rfl (Nat.le_of_ble_eq_true rfl) rfl ?_
  refine bw_iload_n (i := 2) dX10_canTellItem_10 rfl rfl ?_
  refine bw_bipush (v := 119) dX10_canTellItem_11 (by decide) ?_
  refine bw_icmp_ne (tgt := 18) dX10_canTellItem_13 (by decide) (fun c => ?_) (fun c => ?_)
  · replace h := h.1 (c)
    refine bw_aload_n (i := 0) dX10_canTellItem_18 rfl rfl ?_
    refine bw_getr (r := 18) fg_BentWords_Teller_9 rfl rfl dX10_canTellItem_19 ?_
    refine bw_getr (r := 27) fg_BentWords_Teller_72 rfl rfl dX10_canTellItem_22 ?_
    refine bw_iload_n (i := 1) dX10_canTellItem_25 rfl rfl ?_
    obtain ⟨hi2, h⟩ := h
    refine bw_iaload rfl hi2 dX10_canTellItem_26 ?_
    refine bw_istore_n (i := 3) (L' := [some (.ref 35), some (.int a0), some (.int (gw_i w 26 (a0.toNatClampNeg))), some (.int (gw_i w 27 (a0.toNatClampNeg)))]) dX10_canTellItem_27 rfl (Nat.le_of_ble_eq_true rfl) rfl ?_
    refine bw_aload_n (i := 0) dX10_canTellItem_28 rfl rfl ?_
    refine bw_getr (r := 31) fg_BentWords_Teller_15 rfl rfl dX10_canTellItem_29 ?_
    refine bw_iload_n (i := 3) dX10_canTellItem_32 rfl rfl ?_
    obtain ⟨hc3, h⟩ := h
    refine bw_cVb (As := [.int (gw_i w 27 (a0.toNatClampNeg))]) (st := []) (Q' := (fun v w1 => (decide ((gw_l w 32 ((48 + (gw_i w 27 (a0.toNatClampNeg))).toNatClampNeg)) = 0)) = v ∧ w = w1)) cv_BentWords_Teller_75 rfl rfl (fs_X7_isOpen (d := d + 1) (a0 := (gw_i w 27 (a0.toNatClampNeg))) hc3 ⟨rfl, rfl⟩) rfl rfl (Nat.le_of_ble_eq_true rfl) dX10_canTellItem_33 (fun v w1 hv => ?_)
    obtain ⟨rfl, rfl⟩ := hv
    refine bw_ifb_eq (tgt := 46) dX10_canTellItem_36 (by decide) (fun c => ?_) (fun c => ?_)
    · replace h := h.1 (of_decide_eq_false c)
      refine bw_iload_n (i := 2) dX10_canTellItem_46 rfl rfl ?_
      refine bw_bipush (v := 61) dX10_canTellItem_47 (by decide) ?_
      refine bw_icmp_eq (tgt := 58) dX10_canTellItem_49 (by decide) (fun c => ?_) (fun c => ?_)
      · replace h := h.1 (c)
        refine bw_aload_n (i := 0) dX10_canTellItem_58 rfl rfl ?_
        refine bw_iload_n (i := 2) dX10_canTellItem_59 rfl rfl ?_
        refine bw_iload_n (i := 3) dX10_canTellItem_60 rfl rfl ?_
        refine bw_aload_n (i := 0) dX10_canTellItem_61 rfl rfl ?_
        refine bw_getr (r := 18) fg_BentWords_Teller_9 rfl rfl dX10_canTellItem_62 ?_
        refine bw_getr (r := 28) fg_BentWords_Teller_82 rfl rfl dX10_canTellItem_65 ?_
        refine bw_iload_n (i := 1) dX10_canTellItem_68 rfl rfl ?_
        obtain ⟨hi4, h⟩ := h
        refine bw_iaload rfl hi4 dX10_canTellItem_69 ?_
        obtain ⟨Q5, hr, h⟩ := h
        refine bw_cVb (As := [.int (gw_i w 26 (a0.toNatClampNeg)), .int (gw_i w 27 (a0.toNatClampNeg)), .int (gw_i w 28 (a0.toNatClampNeg))]) (st := []) cv_BentWords_Teller_85 rfl rfl hr rfl rfl (Nat.le_of_ble_eq_true rfl) dX10_canTellItem_70 (fun v6 w7 hv => ?_)
        replace h := h v6 w7 hv
        clear hr
        exact bw_ireturn dX10_canTellItem_73 rfl (bw_nb _) ⟨_, rfl, h⟩
      · replace h := h.2 (c)
        refine bw_iload_n (i := 2) dX10_canTellItem_52 rfl rfl ?_
        refine bw_bipush (v := 33) dX10_canTellItem_53 (by decide) ?_
        refine bw_icmp_ne (tgt := 74) dX10_canTellItem_55 (by decide) (fun c => ?_) (fun c => ?_)
        · replace h := h.1 (c)
          refine bw_iload_n (i := 2) dX10_canTellItem_74 rfl rfl ?_
          refine bw_bipush (v := 36) dX10_canTellItem_75 (by decide) ?_
          refine bw_icmp_eq (tgt := 98) dX10_canTellItem_77 (by decide) (fun c => ?_) (fun c => ?_)
          · replace h := h.1 (c)
            refine bw_iconst (v := 1) dX10_canTellItem_98 (by decide) ?_
            refine bw_goto (tgt := 103) dX10_canTellItem_99 (by decide) ?_
            exact bw_ireturn dX10_canTellItem_103 rfl (bw_nb true) ⟨true, rfl, h⟩
          · replace h := h.2 (c)
            refine bw_aload_n (i := 0) dX10_canTellItem_80 rfl rfl ?_
            refine bw_getr (r := 31) fg_BentWords_Teller_15 rfl rfl dX10_canTellItem_81 ?_
            refine bw_cVb (As := []) (st := []) (Q' := (fun v w1 => (decide (¬ (gw_l w 32 51) = 0)) = v ∧ w = w1)) cv_BentWords_Teller_89 rfl rfl (fs_X7_isStrict (d := d + 1)   ⟨rfl, rfl⟩) rfl rfl (Nat.le_of_ble_eq_true rfl) dX10_canTellItem_84 (fun v w1 hv => ?_)
            obtain ⟨rfl, rfl⟩ := hv
            refine bw_ifb_eq (tgt := 98) dX10_canTellItem_87 (by decide) (fun c => ?_) (fun c => ?_)
            · replace h := h.1 (of_decide_eq_false c)
              refine bw_iconst (v := 1) dX10_canTellItem_98 (by decide) ?_
              refine bw_goto (tgt := 103) dX10_canTellItem_99 (by decide) ?_
              exact bw_ireturn dX10_canTellItem_103 rfl (bw_nb true) ⟨true, rfl, h⟩
            · replace h := h.2 (of_decide_eq_true c)
              refine bw_aload_n (i := 0) dX10_canTellItem_90 rfl rfl ?_
              refine bw_iload_n (i := 1) dX10_canTellItem_91 rfl rfl ?_
              obtain ⟨Q8, hr, h⟩ := h
              refine bw_cVb (As := [.int a0]) (st := []) cv_BentWords_Teller_93 rfl rfl hr rfl rfl (Nat.le_of_ble_eq_true rfl) dX10_canTellItem_92 (fun v9 w10 hv => ?_)
              replace h := h v9 w10 hv
              clear hr
              refine bw_ifb_eq (tgt := 102) dX10_canTellItem_95 (by decide) (fun c => ?_) (fun c => ?_)
              · replace h := h.1 (c)
                refine bw_iconst (v := 0) dX10_canTellItem_102 (by decide) ?_
                exact bw_ireturn dX10_canTellItem_103 rfl (bw_nb false) ⟨false, rfl, h⟩
              · replace h := h.2 (c)
                refine bw_iconst (v := 1) dX10_canTellItem_98 (by decide) ?_
                refine bw_goto (tgt := 103) dX10_canTellItem_99 (by decide) ?_
                exact bw_ireturn dX10_canTellItem_103 rfl (bw_nb true) ⟨true, rfl, h⟩
        · replace h := h.2 (c)
          refine bw_aload_n (i := 0) dX10_canTellItem_58 rfl rfl ?_
          refine bw_iload_n (i := 2) dX10_canTellItem_59 rfl rfl ?_
          refine bw_iload_n (i := 3) dX10_canTellItem_60 rfl rfl ?_
          refine bw_aload_n (i := 0) dX10_canTellItem_61 rfl rfl ?_
          refine bw_getr (r := 18) fg_BentWords_Teller_9 rfl rfl dX10_canTellItem_62 ?_
          refine bw_getr (r := 28) fg_BentWords_Teller_82 rfl rfl dX10_canTellItem_65 ?_
          refine bw_iload_n (i := 1) dX10_canTellItem_68 rfl rfl ?_
          obtain ⟨hi11, h⟩ := h
          refine bw_iaload rfl hi11 dX10_canTellItem_69 ?_
          obtain ⟨Q12, hr, h⟩ := h
          refine bw_cVb (As := [.int (gw_i w 26 (a0.toNatClampNeg)), .int (gw_i w 27 (a0.toNatClampNeg)), .int (gw_i w 28 (a0.toNatClampNeg))]) (st := []) cv_BentWords_Teller_85 rfl rfl hr rfl rfl (Nat.le_of_ble_eq_true rfl) dX10_canTellItem_70 (fun v13 w14 hv => ?_)
          replace h := h v13 w14 hv
          clear hr
          exact bw_ireturn dX10_canTellItem_73 rfl (bw_nb _) ⟨_, rfl, h⟩
    · replace h := h.2 (of_decide_eq_true c)
      refine bw_aload_n (i := 0) dX10_canTellItem_39 rfl rfl ?_
      refine bw_iload_n (i := 3) dX10_canTellItem_40 rfl rfl ?_
      refine bw_iconst (v := 0) dX10_canTellItem_41 (by decide) ?_
      refine bw_cVb (As := [.int (gw_i w 27 (a0.toNatClampNeg)), .int 0]) (st := []) (Q' := (fun v w1 => (decide False) = v ∧ (sw_i (sw_i w 35 5 (gw_i w 27 (a0.toNatClampNeg))) 35 6 0) = w1)) cv_BentWords_Teller_78 rfl rfl (fs_X10_refuse (d := d + 1) (a0 := (gw_i w 27 (a0.toNatClampNeg))) (a1 := 0)  ⟨rfl, rfl⟩) rfl rfl (Nat.le_of_ble_eq_true rfl) dX10_canTellItem_42 (fun v w1 hv => ?_)
      obtain ⟨rfl, rfl⟩ := hv
      exact bw_ireturn dX10_canTellItem_45 rfl (bw_nb _) ⟨_, rfl, h⟩
  · replace h := h.2 (c)
    refine bw_iconst (v := 1) dX10_canTellItem_16 (by decide) ?_
    exact bw_ireturn dX10_canTellItem_17 rfl (bw_nb true) ⟨true, rfl, h⟩
