theorem wfX12_bad {E : bw_E} {d : Nat} {w : bw_W} {Q : bw_W → Prop}   (h : (∃ Q1 : bw_W → Prop, bw_rv E (d + 0) mX12_badAt [.ref 50, .int (gw_i w 50 5)] w Q1 ∧ ∀ w3, Q1 w3 →
Q w3)) : bw_rv E (d + 1) mX12_bad [.ref 50] w Q := by
  refine bw_enter rfl (Nat.le_of_ble_eq_true rfl) ?_
  refine bw_aload_n (i := 0) dX12_bad_0 rfl rfl ?_
  refine bw_aload_n (i := 0) dX12_bad_1 rfl rfl ?_
  refine bw_geti fg_BentWordsModel_138 rfl dX12_bad_2 ?_
  obtain ⟨Q1, hr, h⟩ := h
  refine bw_cVv (As := [.int (gw_i w 50 5)]) (st := []) cv_BentWordsModel_153 rfl rfl hr rfl rfl (Nat.le_of_ble_eq_true rfl) dX12_bad_5 (fun w3 hv => ?_)
  replace h := h w3 hv
  clear hr
  exact bw_return dX12_bad_8 rfl ⟨rfl, h⟩
theorem wfX12_isWord {E : bw_E} {d : Nat} {w : bw_W} {Q : Bool → bw_W → Prop} {a0 : Int64}  (h : ((¬ (gw_i w 50 10) = (-1) → Q false w) ∧ ((gw_i w 50 10) = (-1) → (∃ Q1 : Bool → bw_W → Prop, bw_rb E (d + 0) mX12_isGood [.ref 50] w Q1 ∧ ∀ v2 w3, Q1 v2 w3 →
((v2 = false → Q false w3) ∧ (v2 = true → ((¬ (gw_l w3 50 11) = a0 → Q false w3) ∧ ((gw_l w3 50 11) = a0 → Q true w3)))))))) : bw_rb E (d + 1) mX12_isWord [.ref 50, .long a0] w Q := by
  refine bw_enter rfl (Nat.le_of_ble_eq_true rfl) ?_
  refine bw_aload_n (i := 0) dX12_isWord_0 rfl rfl ?_
  refine bw_geti fg_BentWordsModel_150 rfl dX12_isWord_1 ?_
  refine bw_iconst (v := (-1)) dX12_isWord_4 (by decide) ?_
  refine bw_icmp_ne (tgt := 28) dX12_isWord_5 (by decide) (fun c => ?_) (fun c => ?_)
  · replace h := h.1 (c)
    refine bw_iconst (v := 0) dX12_isWord_28 (by decide) ?_
    exact bw_ireturn dX12_isWord_29 rfl (bw_nb false) ⟨false, rfl, h⟩
  · replace h := h.2 (c)
    refine bw_aload_n (i := 0) dX12_isWord_8 rfl rfl ?_
    obtain ⟨Q1, hr, h⟩ := h
    refine bw_cVb (As := []) (st := []) cv_BentWordsModel_163 rfl rfl hr rfl rfl (Nat.le_of_ble_eq_true rfl) dX12_isWord_9 (fun v2 w3 hv => ?_)
    replace h := h v2 w3 hv
    clear hr
    refine bw_ifb_eq (tgt := 28) dX12_isWord_12 (by decide) (fun c => ?_) (fun c => ?_)
    · replace h := h.1 (c)
      refine bw_iconst (v := 0) dX12_isWord_28 (by decide) ?_
      exact bw_ireturn dX12_isWord_29 rfl (bw_nb false) ⟨false, rfl, h⟩
    · replace h := h.2 (c)
      refine bw_aload_n (i := 0) dX12_isWord_15 rfl rfl ?_
      refine bw_getl fg_BentWordsModel_107 rfl dX12_isWord_16 ?_
      refine bw_lload_n (i := 1) dX12_isWord_19 rfl rfl ?_
      refine bw_lcmp_ne (tgt := 28) dX12_isWord_20 dX12_isWord_21 (by decide) (fun c => ?_) (fun c => ?_)
      · replace h := h.1 (c)
        refine bw_iconst (v := 0) dX12_isWord_28 (by decide) ?_
        exact bw_ireturn dX12_isWord_29 rfl (bw_nb false) ⟨false, rfl, h⟩
      · replace h := h.2 (c)
        refine bw_iconst (v := 1) dX12_isWord_24 (by decide) ?_
        refine bw_goto (tgt := 29) dX12_isWord_25 (by decide) ?_
        exact bw_ireturn dX12_isWord_29 rfl (bw_nb true) ⟨true, rfl, h⟩
theorem wfX12_wordAt {E : bw_E} {d : Nat} {w : bw_W} {Q : Int32 → bw_W → Prop} {a0 : Bool} {a1 : Int32} {a2 : Int32} {a3 : Int32}  (h : ((a0 = false → (∃ Q1 : Int32 → bw_W → Prop, bw_ri E (d + 0) mX12_formAt [.int a1, .int a2] w Q1 ∧ ∀ v2 w3, Q1 v2 w3 →
Q ((0 + (3 * v2)) + a3) w3)) ∧ (a0 = true → (∃ Q4 : Int32 → bw_W → Prop, bw_ri E (d + 0) mX12_formAt [.int a1, .int a2] w Q4 ∧ ∀ v5 w6, Q4 v5 w6 →
Q ((24 + (3 * v5)) + a3) w6)))) : bw_ri E (d + 1) mX12_wordAt [.int (bw_b a0), .int a1, .int a2, .int a3] w Q := by
  refine bw_enter rfl (Nat.le_of_ble_eq_true rfl) ?_
  refine bw_iload_n (i := 0) dX12_wordAt_0 rfl rfl ?_
  refine bw_ifb_eq (tgt := 9) dX12_wordAt_1 (by decide) (fun c => ?_) (fun c => ?_)
  · replace h := h.1 (c)
    refine bw_iconst (v := 0) dX12_wordAt_9 (by decide) ?_
    refine bw_iconst (v := 3) dX12_wordAt_10 (by decide) ?_
    refine bw_iload_n (i := 1) dX12_wordAt_11 rfl rfl ?_
    refine bw_iload_n (i := 2) dX12_wordAt_12 rfl rfl ?_
    obtain ⟨Q1, hr, h⟩ := h
    refine bw_cSi (As := [.int a1, .int a2]) (st := [.int 3, .int 0]) cs_BentWordsModel_195 hr rfl rfl (Nat.le_of_ble_eq_true rfl) dX12_wordAt_13 (fun v2 w3 hv => ?_)
    replace h := h v2 w3 hv
    clear hr
    refine bw_imul dX12_wordAt_16 ?_
    refine bw_iadd dX12_wordAt_17 ?_
    refine bw_iload_n (i := 3) dX12_wordAt_18 rfl rfl ?_
    refine bw_iadd dX12_wordAt_19 ?_
    exact bw_ireturn dX12_wordAt_20 rfl rfl ⟨_, rfl, h⟩
  · replace h := h.2 (c)
    refine bw_bipush (v := 24) dX12_wordAt_4 (by decide) ?_
    refine bw_goto (tgt := 10) dX12_wordAt_6 (by decide) ?_
    refine bw_iconst (v := 3) dX12_wordAt_10 (by decide) ?_
    refine bw_iload_n (i := 1) dX12_wordAt_11 rfl rfl ?_
    refine bw_iload_n (i := 2) dX12_wordAt_12 rfl rfl ?_
    obtain ⟨Q4, hr, h⟩ := h
    refine bw_cSi (As := [.int a1, .int a2]) (st := [.int 3, .int 24]) cs_BentWordsModel_195 hr rfl rfl (Nat.le_of_ble_eq_true rfl) dX12_wordAt_13 (fun v5 w6 hv => ?_)
    replace h := h v5 w6 hv
    clear hr
    refine bw_imul dX12_wordAt_16 ?_
    refine bw_iadd dX12_wordAt_17 ?_
    refine bw_iload_n (i := 3) dX12_wordAt_18 rfl rfl ?_
    refine bw_iadd dX12_wordAt_19 ?_
    exact bw_ireturn dX12_wordAt_20 rfl rfl ⟨_, rfl, h⟩
theorem wfX12_sortHere {E : bw_E} {d : Nat} {w : bw_W} {Q : Int32 → bw_W → Prop}   (h : ((¬ (gw_i w 50 4) = 1 → (((gw_i w 50 4) = 3 → (((gw_i w 50 8) = 33 → Q 6 w) ∧ ((gw_i w 50 8) = 35 → Q 1 w) ∧ ((gw_i w 50 8) = 36 → Q 4 w) ∧ ((gw_i w 50 8) = 37 → Q 3 w) ∧ ((gw_i w 50 8) = 61 → Q 5 w) ∧ ((gw_i w 50 8) = 64 → Q 2 w) ∧ (¬ (gw_i w 50 8) = 33 → ¬ (gw_i w 50 8) = 35 → ¬ (gw_i w 50 8) = 36 → ¬ (gw_i w 50 8) = 37 → ¬ (gw_i w 50 8) = 61 → ¬ (gw_i w 50 8) = 64 → Q (-1) w))) ∧ (¬ ((gw_i w 50 4) = 3) → Q (-1) w))) ∧ ((gw_i w 50 4) = 1 → (∃ Q1 : Bool → bw_W → Prop, bw_rb E (d + 0) mX12_isGood [.ref 50] w Q1 ∧ ∀ v2 w3, Q1 v2 w3 →
((v2 = false → Q (-1) w3) ∧ (v2 = true → Q 0 w3)))))) : bw_ri E (d + 1) mX12_sortHere [.ref 50] w Q := by
  refine bw_enter rfl (Nat.le_of_ble_eq_true rfl) ?_
  refine bw_aload_n (i := 0) dX12_sortHere_0 rfl rfl ?_
  refine bw_geti fg_BentWordsModel_126 rfl dX12_sortHere_1 ?_
  refine bw_iconst (v := 1) dX12_sortHere_4 (by decide) ?_
  refine bw_icmp_ne (tgt := 21) dX12_sortHere_5 (by decide) (fun c => ?_) (fun c => ?_)
  · replace h := h.1 (c)
    refine bw_aload_n (i := 0) dX12_sortHere_21 rfl rfl ?_
    refine bw_geti fg_BentWordsModel_126 rfl dX12_sortHere_22 ?_
    refine bw_iconst (v := 3) dX12_sortHere_25 (by decide) ?_
    refine bw_icmp_eq (tgt := 31) dX12_sortHere_26 (by decide) (fun c => ?_) (fun c => ?_)
    · replace h := h.1 (c)
      refine bw_aload_n (i := 0) dX12_sortHere_31 rfl rfl ?_
      refine bw_geti fg_BentWordsModel_147 rfl dX12_sortHere_32 ?_
      by_cases c0 : (gw_i w 50 8) = 33
      · refine bw_lookE (off := 67) (tgt := 102) (v := 33) dX12_sortHere_35 c0 (by decide) (by decide) (by decide) ?_
        replace h := h.1 c0
        refine bw_bipush (v := 6) dX12_sortHere_102 (by decide) ?_
        exact bw_ireturn dX12_sortHere_104 rfl rfl ⟨_, rfl, h⟩
      by_cases c1 : (gw_i w 50 8) = 35
      · refine bw_lookE (off := 57) (tgt := 92) (v := 35) dX12_sortHere_35 c1 (by decide) (by decide) (by decide) ?_
        replace h := h.2.1 c1
        refine bw_iconst (v := 1) dX12_sortHere_92 (by decide) ?_
        exact bw_ireturn dX12_sortHere_93 rfl rfl ⟨_, rfl, h⟩
      by_cases c2 : (gw_i w 50 8) = 36
      · refine bw_lookE (off := 63) (tgt := 98) (v := 36) dX12_sortHere_35 c2 (by decide) (by decide) (by decide) ?_
        replace h := h.2.2.1 c2
        refine bw_iconst (v := 4) dX12_sortHere_98 (by decide) ?_
        exact bw_ireturn dX12_sortHere_99 rfl rfl ⟨_, rfl, h⟩
      by_cases c3 : (gw_i w 50 8) = 37
      · refine bw_lookE (off := 61) (tgt := 96) (v := 37) dX12_sortHere_35 c3 (by decide) (by decide) (by decide) ?_
        replace h := h.2.2.2.1 c3
        refine bw_iconst (v := 3) dX12_sortHere_96 (by decide) ?_
        exact bw_ireturn dX12_sortHere_97 rfl rfl ⟨_, rfl, h⟩
      by_cases c4 : (gw_i w 50 8) = 61
      · refine bw_lookE (off := 65) (tgt := 100) (v := 61) dX12_sortHere_35 c4 (by decide) (by decide) (by decide) ?_
        replace h := h.2.2.2.2.1 c4
        refine bw_iconst (v := 5) dX12_sortHere_100 (by decide) ?_
        exact bw_ireturn dX12_sortHere_101 rfl rfl ⟨_, rfl, h⟩
      by_cases c5 : (gw_i w 50 8) = 64
      · refine bw_lookE (off := 59) (tgt := 94) (v := 64) dX12_sortHere_35 c5 (by decide) (by decide) (by decide) ?_
        replace h := h.2.2.2.2.2.1 c5
        refine bw_iconst (v := 2) dX12_sortHere_94 (by decide) ?_
        exact bw_ireturn dX12_sortHere_95 rfl rfl ⟨_, rfl, h⟩
      refine bw_lookD (tgt := 105) dX12_sortHere_35 (by decide) ?_ (by decide) ?_
      · intro q hq
        simp only [List.mem_cons, List.mem_nil_iff, or_false] at hq
        rcases hq with rfl | rfl | rfl | rfl | rfl | rfl <;> first | exact bw_nei c0 (by decide) | exact bw_nei c1 (by decide) | exact bw_nei c2 (by decide) | exact bw_nei c3 (by decide) | exact bw_nei c4 (by decide) | exact bw_nei c5 (by decide)
      · replace h := h.2.2.2.2.2.2 c0 c1 c2 c3 c4 c5
        refine bw_iconst (v := (-1)) dX12_sortHere_105 (by decide) ?_
        exact bw_ireturn dX12_sortHere_106 rfl rfl ⟨_, rfl, h⟩
    · replace h := h.2 (c)
      refine bw_iconst (v := (-1)) dX12_sortHere_29 (by decide) ?_
      exact bw_ireturn dX12_sortHere_30 rfl rfl ⟨_, rfl, h⟩
  · replace h := h.2 (c)
    refine bw_aload_n (i := 0) dX12_sortHere_8 rfl rfl ?_
    obtain ⟨Q1, hr, h⟩ := h
    refine bw_cVb (As := []) (st := []) cv_BentWordsModel_163 rfl rfl hr rfl rfl (Nat.le_of_ble_eq_true rfl) dX12_sortHere_9 (fun v2 w3 hv => ?_)
    replace h := h v2 w3 hv
    clear hr
    refine bw_ifb_eq (tgt := 19) dX12_sortHere_12 (by decide) (fun c => ?_) (fun c => ?_)
    · replace h := h.1 (c)
      refine bw_iconst (v := (-1)) dX12_sortHere_19 (by decide) ?_
      exact bw_ireturn dX12_sortHere_20 rfl rfl ⟨_, rfl, h⟩
    · replace h := h.2 (c)
      refine bw_iconst (v := 0) dX12_sortHere_15 (by decide) ?_
      refine bw_goto (tgt := 20) dX12_sortHere_16 (by decide) ?_
      exact bw_ireturn dX12_sortHere_20 rfl rfl ⟨_, rfl, h⟩
theorem wfX12_isNoun {E : bw_E} {d : Nat} {w : bw_W} {Q : Bool → bw_W → Prop} {a0 : Int32}  (h : (∃ Q1 : Bool → bw_W → Prop, bw_rb E (d + 0) mX12_in [.int a0, .int 0, .int ((gw_i w 50 34) - 1)] w Q1 ∧ ∀ v2 w3, Q1 v2 w3 →
Q v2 w3)) : bw_rb E (d + 1) mX12_isNoun [.ref 50, .int a0] w Q := by
  refine bw_enter rfl (Nat.le_of_ble_eq_true rfl) ?_
  refine bw_iload_n (i := 1) dX12_isNoun_0 rfl rfl ?_
  refine bw_iconst (v := 0) dX12_isNoun_1 (by decide) ?_
  refine bw_aload_n (i := 0) dX12_isNoun_2 rfl rfl ?_
  refine bw_geti fg_BentWordsModel_269 rfl dX12_isNoun_3 ?_
  refine bw_iconst (v := 1) dX12_isNoun_6 (by decide) ?_
  refine bw_isub dX12_isNoun_7 ?_
  obtain ⟨Q1, hr, h⟩ := h
  refine bw_cSb (As := [.int a0, .int 0, .int ((gw_i w 50 34) - 1)]) (st := []) cs_BentWordsModel_100 hr rfl rfl (Nat.le_of_ble_eq_true rfl) dX12_isNoun_8 (fun v2 w3 hv => ?_)
  replace h := h v2 w3 hv
  clear hr
  exact bw_ireturn dX12_isNoun_11 rfl (bw_nb _) ⟨_, rfl, h⟩
theorem wfX12_isMessage {E : bw_E} {d : Nat} {w : bw_W} {Q : Bool → bw_W → Prop} {a0 : Int32}  (h : (∃ Q1 : Bool → bw_W → Prop, bw_rb E (d + 0) mX12_isLexicon [.ref 50] w Q1 ∧ ∀ v2 w3, Q1 v2 w3 →
((v2 = false → Q false w3) ∧ (v2 = true → (∃ Q4 : Bool → bw_W → Prop, bw_rb E (d + 0) mX12_in [.int a0, .int 0, .int ((gw_i w3 50 35) - 1)] w3 Q4 ∧ ∀ v5 w6, Q4 v5 w6 →
((v5 = false → Q false w6) ∧ (v5 = true → Q true w6))))))) : bw_rb E (d + 1) mX12_isMessage [.ref 50, .int a0] w Q := by
  refine bw_enter rfl (Nat.le_of_ble_eq_true rfl) ?_
  refine bw_aload_n (i := 0) dX12_isMessage_0 rfl rfl ?_
  obtain ⟨Q1, hr, h⟩ := h
  refine bw_cVb (As := []) (st := []) cv_BentWordsModel_272 rfl rfl hr rfl rfl (Nat.le_of_ble_eq_true rfl) dX12_isMessage_1 (fun v2 w3 hv => ?_)
  replace h := h v2 w3 hv
  clear hr
  refine bw_ifb_eq (tgt := 25) dX12_isMessage_4 (by decide) (fun c => ?_) (fun c => ?_)
  · replace h := h.1 (c)
    refine bw_iconst (v := 0) dX12_isMessage_25 (by decide) ?_
    exact bw_ireturn dX12_isMessage_26 rfl (bw_nb false) ⟨false, rfl, h⟩
  · replace h := h.2 (c)
    refine bw_iload_n (i := 1) dX12_isMessage_7 rfl rfl ?_
    refine bw_iconst (v := 0) dX12_isMessage_8 (by decide) ?_
    refine bw_aload_n (i := 0) dX12_isMessage_9 rfl rfl ?_
    refine bw_geti fg_BentWordsModel_275 rfl dX12_isMessage_10 ?_
    refine bw_iconst (v := 1) dX12_isMessage_13 (by decide) ?_
    refine bw_isub dX12_isMessage_14 ?_
    obtain ⟨Q4, hr, h⟩ := h
    refine bw_cSb (As := [.int a0, .int 0, .int ((gw_i w3 50 35) - 1)]) (st := []) cs_BentWordsModel_100 hr rfl rfl (Nat.le_of_ble_eq_true rfl) dX12_isMessage_15 (fun v5 w6 hv => ?_)
    replace h := h v5 w6 hv
    clear hr
    refine bw_ifb_eq (tgt := 25) dX12_isMessage_18 (by decide) (fun c => ?_) (fun c => ?_)
    · replace h := h.1 (c)
      refine bw_iconst (v := 0) dX12_isMessage_25 (by decide) ?_
      exact bw_ireturn dX12_isMessage_26 rfl (bw_nb false) ⟨false, rfl, h⟩
    · replace h := h.2 (c)
      refine bw_iconst (v := 1) dX12_isMessage_21 (by decide) ?_
      refine bw_goto (tgt := 26) dX12_isMessage_22 (by decide) ?_
      exact bw_ireturn dX12_isMessage_26 rfl (bw_nb true) ⟨true, rfl, h⟩
theorem wfX12_isHole {E : bw_E} {d : Nat} {w : bw_W} {Q : Bool → bw_W → Prop} {a0 : Int32}  (h : (∃ Q1 : Bool → bw_W → Prop, bw_rb E (d + 0) mX12_isLexicon [.ref 50] w Q1 ∧ ∀ v2 w3, Q1 v2 w3 →
((v2 = false → Q false w3) ∧ (v2 = true → (∃ Q4 : Bool → bw_W → Prop, bw_rb E (d + 0) mX12_in [.int a0, .int 0, .int 2] w3 Q4 ∧ ∀ v5 w6, Q4 v5 w6 →
((v5 = false → Q false w6) ∧ (v5 = true → Q true w6))))))) : bw_rb E (d + 1) mX12_isHole [.ref 50, .int a0] w Q := by
  refine bw_enter rfl (Nat.le_of_ble_eq_true rfl) ?_
  refine bw_aload_n (i := 0) dX12_isHole_0 rfl rfl ?_
  obtain ⟨Q1, hr, h⟩ := h
  refine bw_cVb (As := []) (st := []) cv_BentWordsModel_272 rfl rfl hr rfl rfl (Nat.le_of_ble_eq_true rfl) dX12_isHole_1 (fun v2 w3 hv => ?_)
  replace h := h v2 w3 hv
  clear hr
  refine bw_ifb_eq (tgt := 20) dX12_isHole_4 (by decide) (fun c => ?_) (fun c => ?_)
  · replace h := h.1 (c)
    refine bw_iconst (v := 0) dX12_isHole_20 (by decide) ?_
    exact bw_ireturn dX12_isHole_21 rfl (bw_nb false) ⟨false, rfl, h⟩
  · replace h := h.2 (c)
    refine bw_iload_n (i := 1) dX12_isHole_7 rfl rfl ?_
    refine bw_iconst (v := 0) dX12_isHole_8 (by decide) ?_
    refine bw_iconst (v := 2) dX12_isHole_9 (by decide) ?_
    obtain ⟨Q4, hr, h⟩ := h
    refine bw_cSb (As := [.int a0, .int 0, .int 2]) (st := []) cs_BentWordsModel_100 hr rfl rfl (Nat.le_of_ble_eq_true rfl) dX12_isHole_10 (fun v5 w6 hv => ?_)
    replace h := h v5 w6 hv
    clear hr
    refine bw_ifb_eq (tgt := 20) dX12_isHole_13 (by decide) (fun c => ?_) (fun c => ?_)
    · replace h := h.1 (c)
      refine bw_iconst (v := 0) dX12_isHole_20 (by decide) ?_
      exact bw_ireturn dX12_isHole_21 rfl (bw_nb false) ⟨false, rfl, h⟩
    · replace h := h.2 (c)
      refine bw_iconst (v := 1) dX12_isHole_16 (by decide) ?_
      refine bw_goto (tgt := 21) dX12_isHole_17 (by decide) ?_
      exact bw_ireturn dX12_isHole_21 rfl (bw_nb true) ⟨true, rfl, h⟩
theorem wfX12_numberIn {E : bw_E} {d : Nat} {w : bw_W} {Q : Int32 → bw_W → Prop} {a0 : Int32}  (h : (∃ Q1 : Int32 → bw_W → Prop, bw_ri E (d + 0) mX12_countIn [.ref 50, .int a0] w Q1 ∧ ∀ v2 w3, Q1 v2 w3 →
((¬ v2 = 1 → Q 1 w3) ∧ (v2 = 1 → Q 0 w3)))) : bw_ri E (d + 1) mX12_numberIn [.ref 50, .int a0] w Q := by
  refine bw_enter rfl (Nat.le_of_ble_eq_true rfl) ?_
  refine bw_aload_n (i := 0) dX12_numberIn_0 rfl rfl ?_
  refine bw_iload_n (i := 1) dX12_numberIn_1 rfl rfl ?_
  obtain ⟨Q1, hr, h⟩ := h
  refine bw_cVi (As := [.int a0]) (st := []) cv_BentWordsModel_278 rfl rfl hr rfl rfl (Nat.le_of_ble_eq_true rfl) dX12_numberIn_2 (fun v2 w3 hv => ?_)
  replace h := h v2 w3 hv
  clear hr
  refine bw_iconst (v := 1) dX12_numberIn_5 (by decide) ?_
  refine bw_icmp_ne (tgt := 13) dX12_numberIn_6 (by decide) (fun c => ?_) (fun c => ?_)
  · replace h := h.1 (c)
    refine bw_iconst (v := 1) dX12_numberIn_13 (by decide) ?_
    exact bw_ireturn dX12_numberIn_14 rfl rfl ⟨_, rfl, h⟩
  · replace h := h.2 (c)
    refine bw_iconst (v := 0) dX12_numberIn_9 (by decide) ?_
    refine bw_goto (tgt := 14) dX12_numberIn_10 (by decide) ?_
    exact bw_ireturn dX12_numberIn_14 rfl rfl ⟨_, rfl, h⟩
theorem wfX12_told {E : bw_E} {d : Nat} {w : bw_W} {Q : Int64 → bw_W → Prop} {a0 : Int32} {a1 : Int32} {a2 : Int32}  (h : (∃ Q1 : Int32 → bw_W → Prop, bw_ri E (d + 0) mX12_formAt [.int a1, .int a2] w Q1 ∧ ∀ v2 w3, Q1 v2 w3 →
(vp_in ((7 + (8 * a0)) + v2) 236) ∧
Q (gw_l w3 63 (((7 + (8 * a0)) + v2).toNatClampNeg)) w3)) : bw_rl E (d + 1) mX12_told [.ref 50, .int a0, .int a1, .int a2] w Q := by
  refine bw_enter rfl (Nat.le_of_ble_eq_true rfl) ?_
  refine bw_aload_n (i := 0) dX12_told_0 rfl rfl ?_
  refine bw_getr (r := 63) fg_BentWordsModel_47 rfl rfl dX12_told_1 ?_
  refine bw_bipush (v := 7) dX12_told_4 (by decide) ?_
  refine bw_bipush (v := 8) dX12_told_6 (by decide) ?_
  refine bw_iload_n (i := 1) dX12_told_8 rfl rfl ?_
  refine bw_imul dX12_told_9 ?_
  refine bw_iadd dX12_told_10 ?_
  refine bw_iload_n (i := 2) dX12_told_11 rfl rfl ?_
  refine bw_iload_n (i := 3) dX12_told_12 rfl rfl ?_
  obtain ⟨Q1, hr, h⟩ := h
  refine bw_cSi (As := [.int a1, .int a2]) (st := [.int (7 + (8 * a0)), .ref 63]) cs_BentWordsModel_195 hr rfl rfl (Nat.le_of_ble_eq_true rfl) dX12_told_13 (fun v2 w3 hv => ?_)
  replace h := h v2 w3 hv
  clear hr
  refine bw_iadd dX12_told_16 ?_
  obtain ⟨hi4, h⟩ := h
  refine bw_laload rfl hi4 dX12_told_17 ?_
  exact bw_lreturn dX12_told_18 rfl ⟨_, rfl, h⟩
theorem wfX12_letterOf_10 {E : bw_E} {d : Nat} {w : bw_W} {Q : Int32 → bw_W → Prop} {l0 : Int64} {l2 : Int32} {l3 : Int64} {l5 : Int32}  (h : ((l5 ≤ l2 → Q ((97 + ((l3 - l3 / 27 * 27).toInt32)) - 1) w) ∧ (¬ (l5 ≤ l2) → bw_G E (d + 1) mX12_letterOf 10 [some (.long l0), none, some (.int l2), some (.long (l3 / 27)), none, some (.int (l5 + (-1)))] [] w (bw_qi Q)))) : bw_G E (d + 1) mX12_letterOf 10 [some (.long l0), none, some (.int l2), some (.long l3), none, some (.int l5)] [] w (bw_qi Q) := by
  refine bw_iload dX12_letterOf_10 rfl ?_
  refine bw_iload_n (i := 2) dX12_letterOf_12 rfl rfl ?_
  refine bw_icmp_le (tgt := 28) dX12_letterOf_13 (by decide) (fun c => ?_) (fun c => ?_)
  · replace h := h.1 (c)
    refine bw_bipush (v := 97) dX12_letterOf_28 (by decide) ?_
    refine bw_lload_n (i := 3) dX12_letterOf_30 rfl rfl ?_
    refine bw_ldc2 kl_BentWordsModel_122 dX12_letterOf_31 ?_
    refine bw_lrem dX12_letterOf_34 (by decide) ?_
    refine bw_l2i dX12_letterOf_35 ?_
    refine bw_iadd dX12_letterOf_36 ?_
    refine bw_iconst (v := 1) dX12_letterOf_37 (by decide) ?_
    refine bw_isub dX12_letterOf_38 ?_
    exact bw_ireturn dX12_letterOf_39 rfl rfl ⟨_, rfl, h⟩
  · replace h := h.2 (c)
    refine bw_lload_n (i := 3) dX12_letterOf_16 rfl rfl ?_
    refine bw_ldc2 kl_BentWordsModel_122 dX12_letterOf_17 ?_
    refine bw_ldiv dX12_letterOf_20 (by decide) ?_
    refine bw_lstore_n (i := 3) (L' := [some (.long l0), none, some (.int l2), some (.long (l3 / 27)), none, some (.int l5)]) dX12_letterOf_21 rfl (Nat.le_of_ble_eq_true rfl) rfl ?_
    refine bw_iinc (i := 5) (x := l5) (v := (l5 + (-1))) (L' := [some (.long l0), none, some (.int l2), some (.long (l3 / 27)), none, some (.int (l5 + (-1)))]) dX12_letterOf_22 rfl rfl (Nat.le_of_ble_eq_true rfl) rfl ?_
    refine bw_goto (tgt := 10) dX12_letterOf_25 (by decide) ?_
    exact h
theorem wfX12_letterOf {E : bw_E} {d : Nat} {w : bw_W} {Q : Int32 → bw_W → Prop} {a0 : Int64} {a1 : Int32}  (h : (∃ Q1 : Int32 → bw_W → Prop, bw_ri E (d + 0) mX12_lettersOf [.long a0] w Q1 ∧ ∀ v2 w3, Q1 v2 w3 →
bw_G E (d + 1) mX12_letterOf 10 [some (.long a0), none, some (.int a1), some (.long a0), none, some (.int (v2 - 1))] [] w3 (bw_qi Q))) : bw_ri E (d + 1) mX12_letterOf [.long a0, .int a1] w Q := by
  refine bw_enter rfl (Nat.le_of_ble_eq_true rfl) ?_
  refine bw_lload_n (i := 0) dX12_letterOf_0 rfl rfl ?_
  refine bw_lstore_n (i := 3) (L' := [some (.long a0), none, some (.int a1), some (.long a0), none, none]) dX12_letterOf_1 rfl (Nat.le_of_ble_eq_true rfl) rfl ?_
  refine bw_lload_n (i := 0) dX12_letterOf_2 rfl rfl ?_
  obtain ⟨Q1, hr, h⟩ := h
  refine bw_cSi (As := [.long a0]) (st := []) cs_BentWordsModel_304 hr rfl rfl (Nat.le_of_ble_eq_true rfl) dX12_letterOf_3 (fun v2 w3 hv => ?_)
  replace h := h v2 w3 hv
  clear hr
  refine bw_iconst (v := 1) dX12_letterOf_6 (by decide) ?_
  refine bw_isub dX12_letterOf_7 ?_
  refine bw_istore (i := 5) (L' := [some (.long a0), none, some (.int a1), some (.long a0), none, some (.int (v2 - 1))]) dX12_letterOf_8 (Nat.le_of_ble_eq_true rfl) rfl ?_
  exact h
theorem wfX12_gap {E : bw_E} {d : Nat} {w : bw_W} {Q : bw_W → Prop}   (h : (((gw_i w 50 37) ≤ 0 → Q w) ∧ (¬ ((gw_i w 50 37) ≤ 0) → (∃ Q1 : bw_W → Prop, bw_rv E (d + 0) mX12_says [.ref 50, .int 32] w Q1 ∧ ∀ w3, Q1 w3 →
Q w3)))) : bw_rv E (d + 1) mX12_gap [.ref 50] w Q := by
  refine bw_enter rfl (Nat.le_of_ble_eq_true rfl) ?_
  refine bw_aload_n (i := 0) dX12_gap_0 rfl rfl ?_
  refine bw_geti fg_BentWordsModel_308 rfl dX12_gap_1 ?_
  refine bw_if_le (tgt := 13) dX12_gap_4 (by decide) (fun c => ?_) (fun c => ?_)
  · replace h := h.1 (c)
    exact bw_return dX12_gap_13 rfl ⟨rfl, h⟩
  · replace h := h.2 (c)
    refine bw_aload_n (i := 0) dX12_gap_7 rfl rfl ?_
    refine bw_bipush (v := 32) dX12_gap_8 (by decide) ?_
    obtain ⟨Q1, hr, h⟩ := h
    refine bw_cVv (As := [.int 32]) (st := []) cv_BentWordsModel_311 rfl rfl hr rfl rfl (Nat.le_of_ble_eq_true rfl) dX12_gap_10 (fun w3 hv => ?_)
    replace h := h w3 hv
    clear hr
    exact bw_return dX12_gap_13 rfl ⟨rfl, h⟩
theorem wfX12_isForm {E : bw_E} {d : Nat} {w : bw_W} {Q : Bool → bw_W → Prop} {a0 : Int32} {a1 : Int32}  (h : (∃ Q1 : Bool → bw_W → Prop, bw_rb E (d + 0) mX12_in [.int a0, .int 0, .int 3] w Q1 ∧ ∀ v2 w3, Q1 v2 w3 →
((v2 = false → Q false w3) ∧ (v2 = true → (∃ Q4 : Bool → bw_W → Prop, bw_rb E (d + 0) mX12_in [.int a1, .int 0, .int 1] w3 Q4 ∧ ∀ v5 w6, Q4 v5 w6 →
((v5 = false → Q false w6) ∧ (v5 = true → Q true w6))))))) : bw_rb E (d + 1) mX12_isForm [.int a0, .int a1] w Q := by
  refine bw_enter rfl (Nat.le_of_ble_eq_true rfl) ?_
  refine bw_iload_n (i := 0) dX12_isForm_0 rfl rfl ?_
  refine bw_iconst (v := 0) dX12_isForm_1 (by decide) ?_
  refine bw_iconst (v := 3) dX12_isForm_2 (by decide) ?_
  obtain ⟨Q1, hr, h⟩ := h
  refine bw_cSb (As := [.int a0, .int 0, .int 3]) (st := []) cs_BentWordsModel_100 hr rfl rfl (Nat.le_of_ble_eq_true rfl) dX12_isForm_3 (fun v2 w3 hv => ?_)
  replace h := h v2 w3 hv
  clear hr
  refine bw_ifb_eq (tgt := 22) dX12_isForm_6 (by decide) (fun c => ?_) (fun c => ?_)
  · replace h := h.1 (c)
    refine bw_iconst (v := 0) dX12_isForm_22 (by decide) ?_
    exact bw_ireturn dX12_isForm_23 rfl (bw_nb false) ⟨false, rfl, h⟩
  · replace h := h.2 (c)
    refine bw_iload_n (i := 1) dX12_isForm_9 rfl rfl ?_
    refine bw_iconst (v := 0) dX12_isForm_10 (by decide) ?_
    refine bw_iconst (v := 1) dX12_isForm_11 (by decide) ?_
    obtain ⟨Q4, hr, h⟩ := h
    refine bw_cSb (As := [.int a1, .int 0, .int 1]) (st := []) cs_BentWordsModel_100 hr rfl rfl (Nat.le_of_ble_eq_true rfl) dX12_isForm_12 (fun v5 w6 hv => ?_)
    replace h := h v5 w6 hv
    clear hr
    refine bw_ifb_eq (tgt := 22) dX12_isForm_15 (by decide) (fun c => ?_) (fun c => ?_)
    · replace h := h.1 (c)
      refine bw_iconst (v := 0) dX12_isForm_22 (by decide) ?_
      exact bw_ireturn dX12_isForm_23 rfl (bw_nb false) ⟨false, rfl, h⟩
    · replace h := h.2 (c)
      refine bw_iconst (v := 1) dX12_isForm_18 (by decide) ?_
      refine bw_goto (tgt := 23) dX12_isForm_19 (by decide) ?_
      exact bw_ireturn dX12_isForm_23 rfl (bw_nb true) ⟨true, rfl, h⟩
theorem wfX12_emptiesNow {E : bw_E} {d : Nat} {w : bw_W} {Q : Int32 → bw_W → Prop} {a0 : Int32}  (h : (∃ Q1 : Int32 → bw_W → Prop, bw_ri E (d + 0) mX12_nounIn [.ref 50, .int a0] w Q1 ∧ ∀ v2 w3, Q1 v2 w3 →
(vp_in (1 + (2 * a0)) 236) ∧
(vp_in ((1 + (2 * a0)) + 1) 236) ∧
Q v2 (sw_l (sw_l w3 63 ((1 + (2 * a0)).toNatClampNeg) (-1)) 63 (((1 + (2 * a0)) + 1).toNatClampNeg) 0))) : bw_ri E (d + 1) mX12_emptiesNow [.ref 50, .int a0] w Q := by
  refine bw_enter rfl (Nat.le_of_ble_eq_true rfl) ?_
  refine bw_aload_n (i := 0) dX12_emptiesNow_0 rfl rfl ?_
  refine bw_iload_n (i := 1) dX12_emptiesNow_1 rfl rfl ?_
  obtain ⟨Q1, hr, h⟩ := h
  refine bw_cVi (As := [.int a0]) (st := []) cv_BentWordsModel_330 rfl rfl hr rfl rfl (Nat.le_of_ble_eq_true rfl) dX12_emptiesNow_2 (fun v2 w3 hv => ?_)
  replace h := h v2 w3 hv
  clear hr
  refine bw_istore_n (i := 2) (L' := [some (.ref 50), some (.int a0), some (.int v2)]) dX12_emptiesNow_5 rfl (Nat.le_of_ble_eq_true rfl) rfl ?_
  refine bw_aload_n (i := 0) dX12_emptiesNow_6 rfl rfl ?_
  refine bw_getr (r := 63) fg_BentWordsModel_47 rfl rfl dX12_emptiesNow_7 ?_
  refine bw_iconst (v := 1) dX12_emptiesNow_10 (by decide) ?_
  refine bw_iconst (v := 2) dX12_emptiesNow_11 (by decide) ?_
  refine bw_iload_n (i := 1) dX12_emptiesNow_12 rfl rfl ?_
  refine bw_imul dX12_emptiesNow_13 ?_
  refine bw_iadd dX12_emptiesNow_14 ?_
  refine bw_ldc2 kl_BentWordsModel_281 dX12_emptiesNow_15 ?_
  obtain ⟨hi4, h⟩ := h
  refine bw_lastore rfl hi4 dX12_emptiesNow_18 ?_
  refine bw_aload_n (i := 0) dX12_emptiesNow_19 rfl rfl ?_
  refine bw_getr (r := 63) fg_BentWordsModel_47 rfl rfl dX12_emptiesNow_20 ?_
  refine bw_iconst (v := 1) dX12_emptiesNow_23 (by decide) ?_
  refine bw_iconst (v := 2) dX12_emptiesNow_24 (by decide) ?_
  refine bw_iload_n (i := 1) dX12_emptiesNow_25 rfl rfl ?_
  refine bw_imul dX12_emptiesNow_26 ?_
  refine bw_iadd dX12_emptiesNow_27 ?_
  refine bw_iconst (v := 1) dX12_emptiesNow_28 (by decide) ?_
  refine bw_iadd dX12_emptiesNow_29 ?_
  refine bw_lconst (v := 0) dX12_emptiesNow_30 rfl ?_
  obtain ⟨hi5, h⟩ := h
  refine bw_lastore rfl hi5 dX12_emptiesNow_31 ?_
  refine bw_iload_n (i := 2) dX12_emptiesNow_32 rfl rfl ?_
  exact bw_ireturn dX12_emptiesNow_33 rfl rfl ⟨_, rfl, h⟩
theorem wfX12_status {E : bw_E} {d : Nat} {w : bw_W} {Q : Int32 → bw_W → Prop} {a0 : Int32}  (h : (∃ Q1 : Bool → bw_W → Prop, bw_rb E (d + 0) mX12_in [.int a0, .int 0, .int 2] w Q1 ∧ ∀ v2 w3, Q1 v2 w3 →
((v2 = false → Q (-1) w3) ∧ (v2 = true → (vp_in a0 3) ∧
Q (gw_i w3 64 (a0.toNatClampNeg)) w3)))) : bw_ri E (d + 1) mX12_status [.ref 50, .int a0] w Q := by
  refine bw_enter rfl (Nat.le_of_ble_eq_true rfl) ?_
  refine bw_iload_n (i := 1) dX12_status_0 rfl rfl ?_
  refine bw_iconst (v := 0) dX12_status_1 (by decide) ?_
  refine bw_iconst (v := 2) dX12_status_2 (by decide) ?_
  obtain ⟨Q1, hr, h⟩ := h
  refine bw_cSb (As := [.int a0, .int 0, .int 2]) (st := []) cs_BentWordsModel_100 hr rfl rfl (Nat.le_of_ble_eq_true rfl) dX12_status_3 (fun v2 w3 hv => ?_)
  replace h := h v2 w3 hv
  clear hr
  refine bw_ifb_eq (tgt := 18) dX12_status_6 (by decide) (fun c => ?_) (fun c => ?_)
  · replace h := h.1 (c)
    refine bw_iconst (v := (-1)) dX12_status_18 (by decide) ?_
    exact bw_ireturn dX12_status_19 rfl rfl ⟨_, rfl, h⟩
  · replace h := h.2 (c)
    refine bw_aload_n (i := 0) dX12_status_9 rfl rfl ?_
    refine bw_getr (r := 64) fg_BentWordsModel_50 rfl rfl dX12_status_10 ?_
    refine bw_iload_n (i := 1) dX12_status_13 rfl rfl ?_
    obtain ⟨hi4, h⟩ := h
    refine bw_iaload rfl hi4 dX12_status_14 ?_
    refine bw_goto (tgt := 19) dX12_status_15 (by decide) ?_
    exact bw_ireturn dX12_status_19 rfl rfl ⟨_, rfl, h⟩
theorem wfX12_log {E : bw_E} {d : Nat} {w : bw_W} {Q : Int32 → bw_W → Prop} {a0 : Int32} {a1 : Int32}  (h : (∃ Q1 : Bool → bw_W → Prop, bw_rb E (d + 0) mX12_in [.int a0, .int 0, .int (((gw_l w 63 55).toInt32) - 1)] w Q1 ∧ ∀ v2 w3, Q1 v2 w3 →
((v2 = false → Q (-1000000) w3) ∧ (v2 = true → (∃ Q4 : Bool → bw_W → Prop, bw_rb E (d + 0) mX12_in [.int a1, .int 0, .int 2] w3 Q4 ∧ ∀ v5 w6, Q4 v5 w6 →
((v5 = false → Q (-1000000) w6) ∧ (v5 = true → (vp_in ((56 + (3 * ((((gw_l w 63 55).toInt32) - 1) - a0))) + a1) 236) ∧
Q ((gw_l w6 63 (((56 + (3 * ((((gw_l w 63 55).toInt32) - 1) - a0))) + a1).toNatClampNeg)).toInt32) w6))))))) : bw_ri E (d + 1) mX12_log [.ref 50, .int a0, .int a1] w Q := by
  refine bw_enter rfl (Nat.le_of_ble_eq_true rfl) ?_
  refine bw_aload_n (i := 0) dX12_log_0 rfl rfl ?_
  refine bw_getr (r := 63) fg_BentWordsModel_47 rfl rfl dX12_log_1 ?_
  refine bw_bipush (v := 55) dX12_log_4 (by decide) ?_
  refine bw_laload rfl (by unfold vp_in; decide) dX12_log_6 ?_
  rw [show gw_l w 63 (Int32.toNatClampNeg 55) = (gw_l w 63 55) from rfl]
  refine bw_l2i dX12_log_7 ?_
  refine bw_istore_n (i := 3) (L' := [some (.ref 50), some (.int a0), some (.int a1), some (.int ((gw_l w 63 55).toInt32))]) dX12_log_8 rfl (Nat.le_of_ble_eq_true rfl) rfl ?_
  refine bw_iload_n (i := 1) dX12_log_9 rfl rfl ?_
  refine bw_iconst (v := 0) dX12_log_10 (by decide) ?_
  refine bw_iload_n (i := 3) dX12_log_11 rfl rfl ?_
  refine bw_iconst (v := 1) dX12_log_12 (by decide) ?_
  refine bw_isub dX12_log_13 ?_
  obtain ⟨Q1, hr, h⟩ := h
  refine bw_cSb (As := [.int a0, .int 0, .int (((gw_l w 63 55).toInt32) - 1)]) (st := []) cs_BentWordsModel_100 hr rfl rfl (Nat.le_of_ble_eq_true rfl) dX12_log_14 (fun v2 w3 hv => ?_)
  replace h := h v2 w3 hv
  clear hr
  refine bw_ifb_eq (tgt := 50) dX12_log_17 (by decide) (fun c => ?_) (fun c => ?_)
  · replace h := h.1 (c)
    refine bw_ldcw ki_BentWordsModel_259 dX12_log_50 ?_
    exact bw_ireturn dX12_log_53 rfl rfl ⟨_, rfl, h⟩
  · replace h := h.2 (c)
    refine bw_iload_n (i := 2) dX12_log_20 rfl rfl ?_
    refine bw_iconst (v := 0) dX12_log_21 (by decide) ?_
    refine bw_iconst (v := 2) dX12_log_22 (by decide) ?_
    obtain ⟨Q4, hr, h⟩ := h
    refine bw_cSb (As := [.int a1, .int 0, .int 2]) (st := []) cs_BentWordsModel_100 hr rfl rfl (Nat.le_of_ble_eq_true rfl) dX12_log_23 (fun v5 w6 hv => ?_)
    replace h := h v5 w6 hv
    clear hr
    refine bw_ifb_eq (tgt := 50) dX12_log_26 (by decide) (fun c => ?_) (fun c => ?_)
    · replace h := h.1 (c)
      refine bw_ldcw ki_BentWordsModel_259 dX12_log_50 ?_
      exact bw_ireturn dX12_log_53 rfl rfl ⟨_, rfl, h⟩
    · replace h := h.2 (c)
      refine bw_aload_n (i := 0) dX12_log_29 rfl rfl ?_
      refine bw_getr (r := 63) fg_BentWordsModel_47 rfl rfl dX12_log_30 ?_
      refine bw_bipush (v := 56) dX12_log_33 (by decide) ?_
      refine bw_iconst (v := 3) dX12_log_35 (by decide) ?_
      refine bw_iload_n (i := 3) dX12_log_36 rfl rfl ?_
      refine bw_iconst (v := 1) dX12_log_37 (by decide) ?_
      refine bw_isub dX12_log_38 ?_
      refine bw_iload_n (i := 1) dX12_log_39 rfl rfl ?_
      refine bw_isub dX12_log_40 ?_
      refine bw_imul dX12_log_41 ?_
      refine bw_iadd dX12_log_42 ?_
      refine bw_iload_n (i := 2) dX12_log_43 rfl rfl ?_
      refine bw_iadd dX12_log_44 ?_
      obtain ⟨hi7, h⟩ := h
      refine bw_laload rfl hi7 dX12_log_45 ?_
      refine bw_l2i dX12_log_46 ?_
      refine bw_goto (tgt := 53) dX12_log_47 (by decide) ?_
      exact bw_ireturn dX12_log_53 rfl rfl ⟨_, rfl, h⟩
theorem wfX12_formsTold_4 {E : bw_E} {d : Nat} {w : bw_W} {Q : Int32 → bw_W → Prop} {l1 : Int32} {l2 : Int32}  (h : (((gw_i w 50 34) ≤ l2 → Q l1 w) ∧ (¬ ((gw_i w 50 34) ≤ l2) → (∃ Q1 : Int32 → bw_W → Prop, bw_ri E (d + 0) mX12_formsOf [.ref 50, .int l2] w Q1 ∧ ∀ v2 w3, Q1 v2 w3 →
bw_G E (d + 1) mX12_formsTold 4 [some (.ref 50), some (.int (l1 + v2)), some (.int (l2 + 1))] [] w3 (bw_qi Q))))) : bw_G E (d + 1) mX12_formsTold 4 [some (.ref 50), some (.int l1), some (.int l2)] [] w (bw_qi Q) := by
  refine bw_iload_n (i := 2) dX12_formsTold_4 rfl rfl ?_
  refine bw_aload_n (i := 0) dX12_formsTold_5 rfl rfl ?_
  refine bw_geti fg_BentWordsModel_269 rfl dX12_formsTold_6 ?_
  refine bw_icmp_ge (tgt := 26) dX12_formsTold_9 (by decide) (fun c => ?_) (fun c => ?_)
  · replace h := h.1 (c)
    refine bw_iload_n (i := 1) dX12_formsTold_26 rfl rfl ?_
    exact bw_ireturn dX12_formsTold_27 rfl rfl ⟨_, rfl, h⟩
  · replace h := h.2 (c)
    refine bw_iload_n (i := 1) dX12_formsTold_12 rfl rfl ?_
    refine bw_aload_n (i := 0) dX12_formsTold_13 rfl rfl ?_
    refine bw_iload_n (i := 2) dX12_formsTold_14 rfl rfl ?_
    obtain ⟨Q1, hr, h⟩ := h
    refine bw_cVi (As := [.int l2]) (st := [.int l1]) cv_BentWordsModel_395 rfl rfl hr rfl rfl (Nat.le_of_ble_eq_true rfl) dX12_formsTold_15 (fun v2 w3 hv => ?_)
    replace h := h v2 w3 hv
    clear hr
    refine bw_iadd dX12_formsTold_18 ?_
    refine bw_istore_n (i := 1) (L' := [some (.ref 50), some (.int (l1 + v2)), some (.int l2)]) dX12_formsTold_19 rfl (Nat.le_of_ble_eq_true rfl) rfl ?_
    refine bw_iinc (i := 2) (x := l2) (v := (l2 + 1)) (L' := [some (.ref 50), some (.int (l1 + v2)), some (.int (l2 + 1))]) dX12_formsTold_20 rfl rfl (Nat.le_of_ble_eq_true rfl) rfl ?_
    refine bw_goto (tgt := 4) dX12_formsTold_23 (by decide) ?_
    exact h
theorem wfX12_formsTold {E : bw_E} {d : Nat} {w : bw_W} {Q : Int32 → bw_W → Prop}   (h : bw_G E (d + 1) mX12_formsTold 4 [some (.ref 50), some (.int 0), some (.int 0)] [] w (bw_qi Q)) : bw_ri E (d + 1) mX12_formsTold [.ref 50] w Q := by
  refine bw_enter rfl (Nat.le_of_ble_eq_true rfl) ?_
  refine bw_iconst (v := 0) dX12_formsTold_0 (by decide) ?_
  refine bw_istore_n (i := 1) (L' := [some (.ref 50), some (.int 0), none]) dX12_formsTold_1 rfl (Nat.le_of_ble_eq_true rfl) rfl ?_
  refine bw_iconst (v := 0) dX12_formsTold_2 (by decide) ?_
  refine bw_istore_n (i := 2) (L' := [some (.ref 50), some (.int 0), some (.int 0)]) dX12_formsTold_3 rfl (Nat.le_of_ble_eq_true rfl) rfl ?_
  exact h
theorem wfX12_isScript {E : bw_E} {d : Nat} {w : bw_W} {Q : Bool → bw_W → Prop} {a0 : Int32}  (h : (∃ Q1 : Bool → bw_W → Prop, bw_rb E (d + 0) mX12_in [.int a0, .int 0, .int ((gw_i w 50 25) - 1)] w Q1 ∧ ∀ v2 w3, Q1 v2 w3 →
Q v2 w3)) : bw_rb E (d + 1) mX12_isScript [.ref 50, .int a0] w Q := by
  refine bw_enter rfl (Nat.le_of_ble_eq_true rfl) ?_
  refine bw_iload_n (i := 1) dX12_isScript_0 rfl rfl ?_
  refine bw_iconst (v := 0) dX12_isScript_1 (by decide) ?_
  refine bw_aload_n (i := 0) dX12_isScript_2 rfl rfl ?_
  refine bw_geti fg_BentWordsModel_293 rfl dX12_isScript_3 ?_
  refine bw_iconst (v := 1) dX12_isScript_6 (by decide) ?_
  refine bw_isub dX12_isScript_7 ?_
  obtain ⟨Q1, hr, h⟩ := h
  refine bw_cSb (As := [.int a0, .int 0, .int ((gw_i w 50 25) - 1)]) (st := []) cs_BentWordsModel_100 hr rfl rfl (Nat.le_of_ble_eq_true rfl) dX12_isScript_8 (fun v2 w3 hv => ?_)
  replace h := h v2 w3 hv
  clear hr
  exact bw_ireturn dX12_isScript_11 rfl (bw_nb _) ⟨_, rfl, h⟩
theorem wfX12_poorestNoun_4 {E : bw_E} {d : Nat} {w : bw_W} {Q : Int32 → bw_W → Prop} {l1 : Int32} {l2 : Int32}  (h : (((gw_i w 50 34) ≤ l2 → Q l1 w) ∧ (¬ ((gw_i w 50 34) ≤ l2) → (∃ Q1 : Int32 → bw_W → Prop, bw_ri E (d + 0) mX12_formsOf [.ref 50, .int l2] w Q1 ∧ ∀ v2 w3, Q1 v2 w3 →
(∃ Q4 : Int32 → bw_W → Prop, bw_ri E (d + 0) mX12_formsOf [.ref 50, .int l1] w3 Q4 ∧ ∀ v5 w6, Q4 v5 w6 →
((v5 ≤ v2 → bw_G E (d + 1) mX12_poorestNoun 4 [some (.ref 50), some (.int l1), some (.int (l2 + 1))] [] w6 (bw_qi Q)) ∧ (¬ (v5 ≤ v2) → bw_G E (d + 1) mX12_poorestNoun 4 [some (.ref 50), some (.int l2), some (.int (l2 + 1))] [] w6 (bw_qi Q)))))))) : bw_G E (d + 1) mX12_poorestNoun 4 [some (.ref 50), some (.int l1), some (.int l2)] [] w (bw_qi Q) := by
  refine bw_iload_n (i := 2) dX12_poorestNoun_4 rfl rfl ?_
  refine bw_aload_n (i := 0) dX12_poorestNoun_5 rfl rfl ?_
  refine bw_geti fg_BentWordsModel_269 rfl dX12_poorestNoun_6 ?_
  refine bw_icmp_ge (tgt := 37) dX12_poorestNoun_9 (by decide) (fun c => ?_) (fun c => ?_)
  · replace h := h.1 (c)
    refine bw_iload_n (i := 1) dX12_poorestNoun_37 rfl rfl ?_
    exact bw_ireturn dX12_poorestNoun_38 rfl rfl ⟨_, rfl, h⟩
  · replace h := h.2 (c)
    refine bw_aload_n (i := 0) dX12_poorestNoun_12 rfl rfl ?_
    refine bw_iload_n (i := 2) dX12_poorestNoun_13 rfl rfl ?_
    obtain ⟨Q1, hr, h⟩ := h
    refine bw_cVi (As := [.int l2]) (st := []) cv_BentWordsModel_395 rfl rfl hr rfl rfl (Nat.le_of_ble_eq_true rfl) dX12_poorestNoun_14 (fun v2 w3 hv => ?_)
    replace h := h v2 w3 hv
    clear hr
    refine bw_aload_n (i := 0) dX12_poorestNoun_17 rfl rfl ?_
    refine bw_iload_n (i := 1) dX12_poorestNoun_18 rfl rfl ?_
    obtain ⟨Q4, hr, h⟩ := h
    refine bw_cVi (As := [.int l1]) (st := [.int v2]) cv_BentWordsModel_395 rfl rfl hr rfl rfl (Nat.le_of_ble_eq_true rfl) dX12_poorestNoun_19 (fun v5 w6 hv => ?_)
    replace h := h v5 w6 hv
    clear hr
    refine bw_icmp_ge (tgt := 29) dX12_poorestNoun_22 (by decide) (fun c => ?_) (fun c => ?_)
    · replace h := h.1 (c)
      refine bw_iload_n (i := 1) dX12_poorestNoun_29 rfl rfl ?_
      refine bw_istore_n (i := 1) (L' := [some (.ref 50), some (.int l1), some (.int l2)]) dX12_poorestNoun_30 rfl (Nat.le_of_ble_eq_true rfl) rfl ?_
      refine bw_iinc (i := 2) (x := l2) (v := (l2 + 1)) (L' := [some (.ref 50), some (.int l1), some (.int (l2 + 1))]) dX12_poorestNoun_31 rfl rfl (Nat.le_of_ble_eq_true rfl) rfl ?_
      refine bw_goto (tgt := 4) dX12_poorestNoun_34 (by decide) ?_
      exact h
    · replace h := h.2 (c)
      refine bw_iload_n (i := 2) dX12_poorestNoun_25 rfl rfl ?_
      refine bw_goto (tgt := 30) dX12_poorestNoun_26 (by decide) ?_
      refine bw_istore_n (i := 1) (L' := [some (.ref 50), some (.int l2), some (.int l2)]) dX12_poorestNoun_30 rfl (Nat.le_of_ble_eq_true rfl) rfl ?_
      refine bw_iinc (i := 2) (x := l2) (v := (l2 + 1)) (L' := [some (.ref 50), some (.int l2), some (.int (l2 + 1))]) dX12_poorestNoun_31 rfl rfl (Nat.le_of_ble_eq_true rfl) rfl ?_
      refine bw_goto (tgt := 4) dX12_poorestNoun_34 (by decide) ?_
      exact h
theorem wfX12_poorestNoun {E : bw_E} {d : Nat} {w : bw_W} {Q : Int32 → bw_W → Prop}   (h : bw_G E (d + 1) mX12_poorestNoun 4 [some (.ref 50), some (.int 0), some (.int 1)] [] w (bw_qi Q)) : bw_ri E (d + 1) mX12_poorestNoun [.ref 50] w Q := by
  refine bw_enter rfl (Nat.le_of_ble_eq_true rfl) ?_
  refine bw_iconst (v := 0) dX12_poorestNoun_0 (by decide) ?_
  refine bw_istore_n (i := 1) (L' := [some (.ref 50), some (.int 0), none]) dX12_poorestNoun_1 rfl (Nat.le_of_ble_eq_true rfl) rfl ?_
  refine bw_iconst (v := 1) dX12_poorestNoun_2 (by decide) ?_
  refine bw_istore_n (i := 2) (L' := [some (.ref 50), some (.int 0), some (.int 1)]) dX12_poorestNoun_3 rfl (Nat.le_of_ble_eq_true rfl) rfl ?_
  exact h
theorem wfX12_filled_4 {E : bw_E} {d : Nat} {w : bw_W} {Q : Int32 → bw_W → Prop} {l1 : Int32} {l2 : Int32}  (h : ((3 ≤ l2 → Q l1 w) ∧ (¬ (3 ≤ l2) → (∃ Q1 : Int32 → bw_W → Prop, bw_ri E (d + 0) mX12_nounIn [.ref 50, .int l2] w Q1 ∧ ∀ v2 w3, Q1 v2 w3 →
((v2 = (-1) → bw_G E (d + 1) mX12_filled 4 [some (.ref 50), some (.int (l1 ||| 0)), some (.int (l2 + 1))] [] w3 (bw_qi Q)) ∧ (¬ (v2 = (-1)) → bw_G E (d + 1) mX12_filled 4 [some (.ref 50), some (.int (l1 ||| ((1 : Int32) <<< (l2 &&& 31)))), some (.int (l2 + 1))] [] w3 (bw_qi Q))))))) : bw_G E (d + 1) mX12_filled 4 [some (.ref 50), some (.int l1), some (.int l2)] [] w (bw_qi Q) := by
  refine bw_iload_n (i := 2) dX12_filled_4 rfl rfl ?_
  refine bw_iconst (v := 3) dX12_filled_5 (by decide) ?_
  refine bw_icmp_ge (tgt := 34) dX12_filled_6 (by decide) (fun c => ?_) (fun c => ?_)
  · replace h := h.1 (c)
    refine bw_iload_n (i := 1) dX12_filled_34 rfl rfl ?_
    exact bw_ireturn dX12_filled_35 rfl rfl ⟨_, rfl, h⟩
  · replace h := h.2 (c)
    refine bw_iload_n (i := 1) dX12_filled_9 rfl rfl ?_
    refine bw_aload_n (i := 0) dX12_filled_10 rfl rfl ?_
    refine bw_iload_n (i := 2) dX12_filled_11 rfl rfl ?_
    obtain ⟨Q1, hr, h⟩ := h
    refine bw_cVi (As := [.int l2]) (st := [.int l1]) cv_BentWordsModel_330 rfl rfl hr rfl rfl (Nat.le_of_ble_eq_true rfl) dX12_filled_12 (fun v2 w3 hv => ?_)
    replace h := h v2 w3 hv
    clear hr
    refine bw_iconst (v := (-1)) dX12_filled_15 (by decide) ?_
    refine bw_icmp_eq (tgt := 25) dX12_filled_16 (by decide) (fun c => ?_) (fun c => ?_)
    · replace h := h.1 (c)
      refine bw_iconst (v := 0) dX12_filled_25 (by decide) ?_
      refine bw_ior dX12_filled_26 ?_
      refine bw_istore_n (i := 1) (L' := [some (.ref 50), some (.int (l1 ||| 0)), some (.int l2)]) dX12_filled_27 rfl (Nat.le_of_ble_eq_true rfl) rfl ?_
      refine bw_iinc (i := 2) (x := l2) (v := (l2 + 1)) (L' := [some (.ref 50), some (.int (l1 ||| 0)), some (.int (l2 + 1))]) dX12_filled_28 rfl rfl (Nat.le_of_ble_eq_true rfl) rfl ?_
      refine bw_goto (tgt := 4) dX12_filled_31 (by decide) ?_
      exact h
    · replace h := h.2 (c)
      refine bw_iconst (v := 1) dX12_filled_19 (by decide) ?_
      refine bw_iload_n (i := 2) dX12_filled_20 rfl rfl ?_
      refine bw_ishl dX12_filled_21 ?_
      refine bw_goto (tgt := 26) dX12_filled_22 (by decide) ?_
      refine bw_ior dX12_filled_26 ?_
      refine bw_istore_n (i := 1) (L' := [some (.ref 50), some (.int (l1 ||| ((1 : Int32) <<< (l2 &&& 31)))), some (.int l2)]) dX12_filled_27 rfl (Nat.le_of_ble_eq_true rfl) rfl ?_
      refine bw_iinc (i := 2) (x := l2) (v := (l2 + 1)) (L' := [some (.ref 50), some (.int (l1 ||| ((1 : Int32) <<< (l2 &&& 31)))), some (.int (l2 + 1))]) dX12_filled_28 rfl rfl (Nat.le_of_ble_eq_true rfl) rfl ?_
      refine bw_goto (tgt := 4) dX12_filled_31 (by decide) ?_
      exact h
theorem wfX12_filled {E : bw_E} {d : Nat} {w : bw_W} {Q : Int32 → bw_W → Prop}   (h : bw_G E (d + 1) mX12_filled 4 [some (.ref 50), some (.int 0), some (.int 0)] [] w (bw_qi Q)) : bw_ri E (d + 1) mX12_filled [.ref 50] w Q := by
  refine bw_enter rfl (Nat.le_of_ble_eq_true rfl) ?_
  refine bw_iconst (v := 0) dX12_filled_0 (by decide) ?_
  refine bw_istore_n (i := 1) (L' := [some (.ref 50), some (.int 0), none]) dX12_filled_1 rfl (Nat.le_of_ble_eq_true rfl) rfl ?_
  refine bw_iconst (v := 0) dX12_filled_2 (by decide) ?_
  refine bw_istore_n (i := 2) (L' := [some (.ref 50), some (.int 0), some (.int 0)]) dX12_filled_3 rfl (Nat.le_of_ble_eq_true rfl) rfl ?_
  exact h
theorem wfX12_twiceOnes_4 {E : bw_E} {d : Nat} {w : bw_W} {Q : Int32 → bw_W → Prop} {l1 : Int32} {l2 : Int32}  (h : (((gw_i w 50 34) ≤ l2 → Q l1 w) ∧ (¬ ((gw_i w 50 34) ≤ l2) → bw_G E (d + 1) mX12_twiceOnes 14 [some (.ref 50), some (.int l1), some (.int l2), some (.int 0)] [] w (bw_qi Q)))) : bw_G E (d + 1) mX12_twiceOnes 4 [some (.ref 50), some (.int l1), some (.int l2), none] [] w (bw_qi Q) := by
  refine bw_iload_n (i := 2) dX12_twiceOnes_4 rfl rfl ?_
  refine bw_aload_n (i := 0) dX12_twiceOnes_5 rfl rfl ?_
  refine bw_geti fg_BentWordsModel_269 rfl dX12_twiceOnes_6 ?_
  refine bw_icmp_ge (tgt := 49) dX12_twiceOnes_9 (by decide) (fun c => ?_) (fun c => ?_)
  · replace h := h.1 (c)
    refine bw_iload_n (i := 1) dX12_twiceOnes_49 rfl rfl ?_
    exact bw_ireturn dX12_twiceOnes_50 rfl rfl ⟨_, rfl, h⟩
  · replace h := h.2 (c)
    refine bw_iconst (v := 0) dX12_twiceOnes_12 (by decide) ?_
    refine bw_istore_n (i := 3) (L' := [some (.ref 50), some (.int l1), some (.int l2), some (.int 0)]) dX12_twiceOnes_13 rfl (Nat.le_of_ble_eq_true rfl) rfl ?_
    exact h
theorem wfX12_twiceOnes_14 {E : bw_E} {d : Nat} {w : bw_W} {Q : Int32 → bw_W → Prop} {l1 : Int32} {l2 : Int32} {l3 : Int32}  (h : ((8 ≤ l3 → bw_G E (d + 1) mX12_twiceOnes 4 [some (.ref 50), some (.int l1), some (.int (l2 + 1)), none] [] w (bw_qi Q)) ∧ (¬ (8 ≤ l3) → (∃ Q1 : Bool → bw_W → Prop, bw_rb E (d + 0) mX12_isTwice [.ref 50, .int l2, .int l3] w Q1 ∧ ∀ v2 w3, Q1 v2 w3 →
((v2 = false → bw_G E (d + 1) mX12_twiceOnes 14 [some (.ref 50), some (.int (l1 + 0)), some (.int l2), some (.int (l3 + 1))] [] w3 (bw_qi Q)) ∧ (v2 = true → bw_G E (d + 1) mX12_twiceOnes 14 [some (.ref 50), some (.int (l1 + 1)), some (.int l2), some (.int (l3 + 1))] [] w3 (bw_qi Q))))))) : bw_G E (d + 1) mX12_twiceOnes 14 [some (.ref 50), some (.int l1), some (.int l2), some (.int l3)] [] w (bw_qi Q) := by
  refine bw_iload_n (i := 3) dX12_twiceOnes_14 rfl rfl ?_
  refine bw_bipush (v := 8) dX12_twiceOnes_15 (by decide) ?_
  refine bw_icmp_ge (tgt := 43) dX12_twiceOnes_17 (by decide) (fun c => ?_) (fun c => ?_)
  · replace h := h.1 (c)
    refine bw_iinc (i := 2) (x := l2) (v := (l2 + 1)) (L' := [some (.ref 50), some (.int l1), some (.int (l2 + 1)), some (.int l3)]) dX12_twiceOnes_43 rfl rfl (Nat.le_of_ble_eq_true rfl) rfl ?_
    refine bw_goto (tgt := 4) dX12_twiceOnes_46 (by decide) ?_
    exact bw_wk [3] rfl h
  · replace h := h.2 (c)
    refine bw_iload_n (i := 1) dX12_twiceOnes_20 rfl rfl ?_
    refine bw_aload_n (i := 0) dX12_twiceOnes_21 rfl rfl ?_
    refine bw_iload_n (i := 2) dX12_twiceOnes_22 rfl rfl ?_
    refine bw_iload_n (i := 3) dX12_twiceOnes_23 rfl rfl ?_
    obtain ⟨Q1, hr, h⟩ := h
    refine bw_cVb (As := [.int l2, .int l3]) (st := [.int l1]) cv_BentWordsModel_506 rfl rfl hr rfl rfl (Nat.le_of_ble_eq_true rfl) dX12_twiceOnes_24 (fun v2 w3 hv => ?_)
    replace h := h v2 w3 hv
    clear hr
    refine bw_ifb_eq (tgt := 34) dX12_twiceOnes_27 (by decide) (fun c => ?_) (fun c => ?_)
    · replace h := h.1 (c)
      refine bw_iconst (v := 0) dX12_twiceOnes_34 (by decide) ?_
      refine bw_iadd dX12_twiceOnes_35 ?_
      refine bw_istore_n (i := 1) (L' := [some (.ref 50), some (.int (l1 + 0)), some (.int l2), some (.int l3)]) dX12_twiceOnes_36 rfl (Nat.le_of_ble_eq_true rfl) rfl ?_
      refine bw_iinc (i := 3) (x := l3) (v := (l3 + 1)) (L' := [some (.ref 50), some (.int (l1 + 0)), some (.int l2), some (.int (l3 + 1))]) dX12_twiceOnes_37 rfl rfl (Nat.le_of_ble_eq_true rfl) rfl ?_
      refine bw_goto (tgt := 14) dX12_twiceOnes_40 (by decide) ?_
      exact h
    · replace h := h.2 (c)
      refine bw_iconst (v := 1) dX12_twiceOnes_30 (by decide) ?_
      refine bw_goto (tgt := 35) dX12_twiceOnes_31 (by decide) ?_
      refine bw_iadd dX12_twiceOnes_35 ?_
      refine bw_istore_n (i := 1) (L' := [some (.ref 50), some (.int (l1 + 1)), some (.int l2), some (.int l3)]) dX12_twiceOnes_36 rfl (Nat.le_of_ble_eq_true rfl) rfl ?_
      refine bw_iinc (i := 3) (x := l3) (v := (l3 + 1)) (L' := [some (.ref 50), some (.int (l1 + 1)), some (.int l2), some (.int (l3 + 1))]) dX12_twiceOnes_37 rfl rfl (Nat.le_of_ble_eq_true rfl) rfl ?_
      refine bw_goto (tgt := 14) dX12_twiceOnes_40 (by decide) ?_
      exact h
theorem wfX12_twiceOnes {E : bw_E} {d : Nat} {w : bw_W} {Q : Int32 → bw_W → Prop}   (h : bw_G E (d + 1) mX12_twiceOnes 4 [some (.ref 50), some (.int 0), some (.int 0), none] [] w (bw_qi Q)) : bw_ri E (d + 1) mX12_twiceOnes [.ref 50] w Q := by
  refine bw_enter rfl (Nat.le_of_ble_eq_true rfl) ?_
  refine bw_iconst (v := 0) dX12_twiceOnes_0 (by decide) ?_
  refine bw_istore_n (i := 1) (L' := [some (.ref 50), some (.int 0), none, none]) dX12_twiceOnes_1 rfl (Nat.le_of_ble_eq_true rfl) rfl ?_
  refine bw_iconst (v := 0) dX12_twiceOnes_2 (by decide) ?_
  refine bw_istore_n (i := 2) (L' := [some (.ref 50), some (.int 0), some (.int 0), none]) dX12_twiceOnes_3 rfl (Nat.le_of_ble_eq_true rfl) rfl ?_
  exact h
theorem wfX0_wordAlone {E : bw_E} {d : Nat} {w : bw_W} {Q : Int64 → bw_W → Prop}   (h : (∃ Q1 : bw_W → Prop, bw_rv E (d + 1) mX0_rewind [.ref 3] w Q1 ∧ ∀ w3, Q1 w3 →
(∃ Q4 : Bool → bw_W → Prop, bw_rb E (d + 1) mX0_takeWord [.ref 3] w3 Q4 ∧ ∀ v5 w6, Q4 v5 w6 →
((v5 = false → Q 0 w6) ∧ (v5 = true → (∃ Q7 : Bool → bw_W → Prop, bw_rb E (d + 1) mX0_isAtEnd [.ref 3] w6 Q7 ∧ ∀ v8 w9, Q7 v8 w9 →
((v8 = false → Q 0 w9) ∧ (v8 = true → Q (gw_l w9 3 5) w9)))))))) : bw_rl E (d + 2) mX0_wordAlone [.ref 3] w Q := by
  refine bw_enter rfl (Nat.le_of_ble_eq_true rfl) ?_
  refine bw_aload_n (i := 0) dX0_wordAlone_0 rfl rfl ?_
  obtain ⟨Q1, hr, h⟩ := h
  refine bw_cVv (As := []) (st := []) cv_BentWords_Cursor_57 rfl rfl hr rfl rfl (Nat.le_of_ble_eq_true rfl) dX0_wordAlone_1 (fun w3 hv => ?_)
  replace h := h w3 hv
  clear hr
  refine bw_aload_n (i := 0) dX0_wordAlone_4 rfl rfl ?_
  obtain ⟨Q4, hr, h⟩ := h
  refine bw_cVb (As := []) (st := []) cv_BentWords_Cursor_60 rfl rfl hr rfl rfl (Nat.le_of_ble_eq_true rfl) dX0_wordAlone_5 (fun v5 w6 hv => ?_)
  replace h := h v5 w6 hv
  clear hr
  refine bw_ifb_eq (tgt := 25) dX0_wordAlone_8 (by decide) (fun c => ?_) (fun c => ?_)
  · replace h := h.1 (c)
    refine bw_lconst (v := 0) dX0_wordAlone_25 rfl ?_
    exact bw_lreturn dX0_wordAlone_26 rfl ⟨_, rfl, h⟩
  · replace h := h.2 (c)
    refine bw_aload_n (i := 0) dX0_wordAlone_11 rfl rfl ?_
    obtain ⟨Q7, hr, h⟩ := h
    refine bw_cVb (As := []) (st := []) cv_BentWords_Cursor_64 rfl rfl hr rfl rfl (Nat.le_of_ble_eq_true rfl) dX0_wordAlone_12 (fun v8 w9 hv => ?_)
    replace h := h v8 w9 hv
    clear hr
    refine bw_ifb_eq (tgt := 25) dX0_wordAlone_15 (by decide) (fun c => ?_) (fun c => ?_)
    · replace h := h.1 (c)
      refine bw_lconst (v := 0) dX0_wordAlone_25 rfl ?_
      exact bw_lreturn dX0_wordAlone_26 rfl ⟨_, rfl, h⟩
    · replace h := h.2 (c)
      refine bw_aload_n (i := 0) dX0_wordAlone_18 rfl rfl ?_
      refine bw_getl fg_BentWords_Cursor_37 rfl dX0_wordAlone_19 ?_
      refine bw_goto (tgt := 26) dX0_wordAlone_22 (by decide) ?_
      exact bw_lreturn dX0_wordAlone_26 rfl ⟨_, rfl, h⟩
theorem wfX1_drawStep {E : bw_E} {d : Nat} {w : bw_W} {Q : bw_W → Prop} {a1 : Int32}  (h : (∃ Q1 : Int32 → bw_W → Prop, bw_ri E (d + 1) mX1_next [.ref 48, .int 8] w Q1 ∧ ∀ v2 w3, Q1 v2 w3 →
((4 ≤ v2 → ((¬ v2 = 4 → ((¬ v2 = 5 → ((¬ v2 = 6 → (∃ Q4 : Int32 → bw_W → Prop, bw_ri E (d + 1) mX1_next [.ref 48, .int a1] (sw_i w3 49 0 4) Q4 ∧ ∀ v5 w6, Q4 v5 w6 →
(∃ Q7 : Int32 → bw_W → Prop, bw_ri E (d + 1) mX1_next [.ref 48, .int 4] (sw_i w6 49 1 v5) Q7 ∧ ∀ v8 w9, Q7 v8 w9 →
(∃ Q10 : Int32 → bw_W → Prop, bw_ri E (d + 1) mX1_next [.ref 48, .int 2] (sw_i w9 49 2 v8) Q10 ∧ ∀ v11 w12, Q10 v11 w12 →
((¬ v2 = 6 → Q (sw_l (sw_i w12 49 3 v11) 49 4 0)) ∧ (v2 = 6 → (∃ Q13 : Int64 → bw_W → Prop, bw_rl E (d + 1) mX1_drawWord [.ref 48] (sw_i w12 49 3 v11) Q13 ∧ ∀ v14 w15, Q13 v14 w15 →
Q (sw_l w15 49 4 v14)))))))) ∧ (v2 = 6 → (∃ Q16 : Int32 → bw_W → Prop, bw_ri E (d + 1) mX1_next [.ref 48, .int a1] (sw_i w3 49 0 3) Q16 ∧ ∀ v17 w18, Q16 v17 w18 →
(∃ Q19 : Int32 → bw_W → Prop, bw_ri E (d + 1) mX1_next [.ref 48, .int 4] (sw_i w18 49 1 v17) Q19 ∧ ∀ v20 w21, Q19 v20 w21 →
(∃ Q22 : Int32 → bw_W → Prop, bw_ri E (d + 1) mX1_next [.ref 48, .int 2] (sw_i w21 49 2 v20) Q22 ∧ ∀ v23 w24, Q22 v23 w24 →
((¬ v2 = 6 → Q (sw_l (sw_i w24 49 3 v23) 49 4 0)) ∧ (v2 = 6 → (∃ Q25 : Int64 → bw_W → Prop, bw_rl E (d + 1) mX1_drawWord [.ref 48] (sw_i w24 49 3 v23) Q25 ∧ ∀ v26 w27, Q25 v26 w27 →
Q (sw_l w27 49 4 v26)))))))))) ∧ (v2 = 5 → (∃ Q28 : Int32 → bw_W → Prop, bw_ri E (d + 1) mX1_next [.ref 48, .int 2] (sw_i w3 49 0 2) Q28 ∧ ∀ v29 w30, Q28 v29 w30 →
Q (sw_i w30 49 1 v29))))) ∧ (v2 = 4 → (∃ Q31 : Int32 → bw_W → Prop, bw_ri E (d + 1) mX1_next [.ref 48, .int 3] (sw_i w3 49 0 1) Q31 ∧ ∀ v32 w33, Q31 v32 w33 →
Q (sw_i w33 49 1 v32))))) ∧ (¬ (4 ≤ v2) → (∃ Q34 : Int32 → bw_W → Prop, bw_ri E (d + 1) mX1_next [.ref 48, .int 3] (sw_i w3 49 0 0) Q34 ∧ ∀ v35 w36, Q34 v35 w36 →
(∃ Q37 : Int32 → bw_W → Prop, bw_ri E (d + 1) mX1_next [.ref 48, .int a1] (sw_i w36 49 1 v35) Q37 ∧ ∀ v38 w39, Q37 v38 w39 →
(∃ Q40 : Int32 → bw_W → Prop, bw_ri E (d + 1) mX1_next [.ref 48, .int 4] (sw_i w39 49 2 v38) Q40 ∧ ∀ v41 w42, Q40 v41 w42 →
Q (sw_i w42 49 3 v41)))))))) : bw_rv E (d + 2) mX1_drawStep [.ref 48, .ref 49, .int a1] w Q := by
  refine bw_enter rfl (Nat.le_of_ble_eq_true rfl) ?_
  refine bw_aload_n (i := 0) dX1_drawStep_0 rfl rfl ?_
  refine bw_bipush (v := 8) dX1_drawStep_1 (by decide) ?_
  obtain ⟨Q1, hr, h⟩ := h
  refine bw_cVi (As := [.int 8]) (st := []) cv_BentWords_Draws_19 rfl rfl hr rfl rfl (Nat.le_of_ble_eq_true rfl) dX1_drawStep_3 (fun v2 w3 hv => ?_)
  replace h := h v2 w3 hv
  clear hr
  refine bw_istore_n (i := 3) (L' := [some (.ref 48), some (.ref 49), some (.int a1), some (.int v2)]) dX1_drawStep_6 rfl (Nat.le_of_ble_eq_true rfl) rfl ?_
  refine bw_iload_n (i := 3) dX1_drawStep_7 rfl rfl ?_
  refine bw_iconst (v := 4) dX1_drawStep_8 (by decide) ?_
  refine bw_icmp_ge (tgt := 47) dX1_drawStep_9 (by decide) (fun c => ?_) (fun c => ?_)
  · replace h := h.1 (c)
    refine bw_iload_n (i := 3) dX1_drawStep_47 rfl rfl ?_
    refine bw_iconst (v := 4) dX1_drawStep_48 (by decide) ?_
    refine bw_icmp_ne (tgt := 69) dX1_drawStep_49 (by decide) (fun c => ?_) (fun c => ?_)
    · replace h := h.1 (c)
      refine bw_iload_n (i := 3) dX1_drawStep_69 rfl rfl ?_
      refine bw_iconst (v := 5) dX1_drawStep_70 (by decide) ?_
      refine bw_icmp_ne (tgt := 91) dX1_drawStep_71 (by decide) (fun c => ?_) (fun c => ?_)
      · replace h := h.1 (c)
        refine bw_aload_n (i := 1) dX1_drawStep_91 rfl rfl ?_
        refine bw_iload_n (i := 3) dX1_drawStep_92 rfl rfl ?_
        refine bw_bipush (v := 6) dX1_drawStep_93 (by decide) ?_
        refine bw_icmp_ne (tgt := 102) dX1_drawStep_95 (by decide) (fun c => ?_) (fun c => ?_)
        · replace h := h.1 (c)
          refine bw_iconst (v := 4) dX1_drawStep_102 (by decide) ?_
          refine bw_puti fp_BentWords_Draws_23 rfl rfl rfl dX1_drawStep_103 ?_
          refine bw_aload_n (i := 1) dX1_drawStep_106 rfl rfl ?_
          refine bw_aload_n (i := 0) dX1_drawStep_107 rfl rfl ?_
          refine bw_iload_n (i := 2) dX1_drawStep_108 rfl rfl ?_
          obtain ⟨Q4, hr, h⟩ := h
          refine bw_cVi (As := [.int a1]) (st := [.ref 49]) cv_BentWords_Draws_19 rfl rfl hr rfl rfl (Nat.le_of_ble_eq_true rfl) dX1_drawStep_109 (fun v5 w6 hv => ?_)
          replace h := h v5 w6 hv
          clear hr
          refine bw_puti fp_BentWords_Draws_29 rfl rfl rfl dX1_drawStep_112 ?_
          refine bw_aload_n (i := 1) dX1_drawStep_115 rfl rfl ?_
          refine bw_aload_n (i := 0) dX1_drawStep_116 rfl rfl ?_
          refine bw_iconst (v := 4) dX1_drawStep_117 (by decide) ?_
          obtain ⟨Q7, hr, h⟩ := h
          refine bw_cVi (As := [.int 4]) (st := [.ref 49]) cv_BentWords_Draws_19 rfl rfl hr rfl rfl (Nat.le_of_ble_eq_true rfl) dX1_drawStep_118 (fun v8 w9 hv => ?_)
          replace h := h v8 w9 hv
          clear hr
          refine bw_puti fp_BentWords_Draws_32 rfl rfl rfl dX1_drawStep_121 ?_
          refine bw_aload_n (i := 1) dX1_drawStep_124 rfl rfl ?_
          refine bw_aload_n (i := 0) dX1_drawStep_125 rfl rfl ?_
          refine bw_iconst (v := 2) dX1_drawStep_126 (by decide) ?_
          obtain ⟨Q10, hr, h⟩ := h
          refine bw_cVi (As := [.int 2]) (st := [.ref 49]) cv_BentWords_Draws_19 rfl rfl hr rfl rfl (Nat.le_of_ble_eq_true rfl) dX1_drawStep_127 (fun v11 w12 hv => ?_)
          replace h := h v11 w12 hv
          clear hr
          refine bw_puti fp_BentWords_Draws_35 rfl rfl rfl dX1_drawStep_130 ?_
          refine bw_aload_n (i := 1) dX1_drawStep_133 rfl rfl ?_
          refine bw_iload_n (i := 3) dX1_drawStep_134 rfl rfl ?_
          refine bw_bipush (v := 6) dX1_drawStep_135 (by decide) ?_
          refine bw_icmp_ne (tgt := 147) dX1_drawStep_137 (by decide) (fun c => ?_) (fun c => ?_)
          · replace h := h.1 (c)
            refine bw_lconst (v := 0) dX1_drawStep_147 rfl ?_
            refine bw_putl fp_BentWords_Draws_42 rfl dX1_drawStep_148 ?_
            exact bw_return dX1_drawStep_151 rfl ⟨rfl, h⟩
          · replace h := h.2 (c)
            refine bw_aload_n (i := 0) dX1_drawStep_140 rfl rfl ?_
            obtain ⟨Q13, hr, h⟩ := h
            refine bw_cVl (As := []) (st := [.ref 49]) cv_BentWords_Draws_38 rfl rfl hr rfl rfl (Nat.le_of_ble_eq_true rfl) dX1_drawStep_141 (fun v14 w15 hv => ?_)
            replace h := h v14 w15 hv
            clear hr
            refine bw_goto (tgt := 148) dX1_drawStep_144 (by decide) ?_
            refine bw_putl fp_BentWords_Draws_42 rfl dX1_drawStep_148 ?_
            exact bw_return dX1_drawStep_151 rfl ⟨rfl, h⟩
        · replace h := h.2 (c)
          refine bw_iconst (v := 3) dX1_drawStep_98 (by decide) ?_
          refine bw_goto (tgt := 103) dX1_drawStep_99 (by decide) ?_
          refine bw_puti fp_BentWords_Draws_23 rfl rfl rfl dX1_drawStep_103 ?_
          refine bw_aload_n (i := 1) dX1_drawStep_106 rfl rfl ?_
          refine bw_aload_n (i := 0) dX1_drawStep_107 rfl rfl ?_
          refine bw_iload_n (i := 2) dX1_drawStep_108 rfl rfl ?_
          obtain ⟨Q16, hr, h⟩ := h
          refine bw_cVi (As := [.int a1]) (st := [.ref 49]) cv_BentWords_Draws_19 rfl rfl hr rfl rfl (Nat.le_of_ble_eq_true rfl) dX1_drawStep_109 (fun v17 w18 hv => ?_)
          replace h := h v17 w18 hv
          clear hr
          refine bw_puti fp_BentWords_Draws_29 rfl rfl rfl dX1_drawStep_112 ?_
          refine bw_aload_n (i := 1) dX1_drawStep_115 rfl rfl ?_
          refine bw_aload_n (i := 0) dX1_drawStep_116 rfl rfl ?_
          refine bw_iconst (v := 4) dX1_drawStep_117 (by decide) ?_
          obtain ⟨Q19, hr, h⟩ := h
          refine bw_cVi (As := [.int 4]) (st := [.ref 49]) cv_BentWords_Draws_19 rfl rfl hr rfl rfl (Nat.le_of_ble_eq_true rfl) dX1_drawStep_118 (fun v20 w21 hv => ?_)
          replace h := h v20 w21 hv
          clear hr
          refine bw_puti fp_BentWords_Draws_32 rfl rfl rfl dX1_drawStep_121 ?_
          refine bw_aload_n (i := 1) dX1_drawStep_124 rfl rfl ?_
          refine bw_aload_n (i := 0) dX1_drawStep_125 rfl rfl ?_
          refine bw_iconst (v := 2) dX1_drawStep_126 (by decide) ?_
          obtain ⟨Q22, hr, h⟩ := h
          refine bw_cVi (As := [.int 2]) (st := [.ref 49]) cv_BentWords_Draws_19 rfl rfl hr rfl rfl (Nat.le_of_ble_eq_true rfl) dX1_drawStep_127 (fun v23 w24 hv => ?_)
          replace h := h v23 w24 hv
          clear hr
          refine bw_puti fp_BentWords_Draws_35 rfl rfl rfl dX1_drawStep_130 ?_
          refine bw_aload_n (i := 1) dX1_drawStep_133 rfl rfl ?_
          refine bw_iload_n (i := 3) dX1_drawStep_134 rfl rfl ?_
          refine bw_bipush (v := 6) dX1_drawStep_135 (by decide) ?_
          refine bw_icmp_ne (tgt := 147) dX1_drawStep_137 (by decide) (fun c => ?_) (fun c => ?_)
          · replace h := h.1 (c)
            refine bw_lconst (v := 0) dX1_drawStep_147 rfl ?_
            refine bw_putl fp_BentWords_Draws_42 rfl dX1_drawStep_148 ?_
            exact bw_return dX1_drawStep_151 rfl ⟨rfl, h⟩
          · replace h := h.2 (c)
            refine bw_aload_n (i := 0) dX1_drawStep_140 rfl rfl ?_
            obtain ⟨Q25, hr, h⟩ := h
            refine bw_cVl (As := []) (st := [.ref 49]) cv_BentWords_Draws_38 rfl rfl hr rfl rfl (Nat.le_of_ble_eq_true rfl) dX1_drawStep_141 (fun v26 w27 hv => ?_)
            replace h := h v26 w27 hv
            clear hr
            refine bw_goto (tgt := 148) dX1_drawStep_144 (by decide) ?_
            refine bw_putl fp_BentWords_Draws_42 rfl dX1_drawStep_148 ?_
            exact bw_return dX1_drawStep_151 rfl ⟨rfl, h⟩
      · replace h := h.2 (c)
        refine bw_aload_n (i := 1) dX1_drawStep_74 rfl rfl ?_
        refine bw_iconst (v := 2) dX1_drawStep_75 (by decide) ?_
        refine bw_puti fp_BentWords_Draws_23 rfl rfl rfl dX1_drawStep_76 ?_
        refine bw_aload_n (i := 1) dX1_drawStep_79 rfl rfl ?_
        refine bw_aload_n (i := 0) dX1_drawStep_80 rfl rfl ?_
        refine bw_iconst (v := 2) dX1_drawStep_81 (by decide) ?_
        obtain ⟨Q28, hr, h⟩ := h
        refine bw_cVi (As := [.int 2]) (st := [.ref 49]) cv_BentWords_Draws_19 rfl rfl hr rfl rfl (Nat.le_of_ble_eq_true rfl) dX1_drawStep_82 (fun v29 w30 hv => ?_)
        replace h := h v29 w30 hv
        clear hr
        refine bw_puti fp_BentWords_Draws_29 rfl rfl rfl dX1_drawStep_85 ?_
        refine bw_goto (tgt := 151) dX1_drawStep_88 (by decide) ?_
        exact bw_return dX1_drawStep_151 rfl ⟨rfl, h⟩
    · replace h := h.2 (c)
      refine bw_aload_n (i := 1) dX1_drawStep_52 rfl rfl ?_
      refine bw_iconst (v := 1) dX1_drawStep_53 (by decide) ?_
      refine bw_puti fp_BentWords_Draws_23 rfl rfl rfl dX1_drawStep_54 ?_
      refine bw_aload_n (i := 1) dX1_drawStep_57 rfl rfl ?_
      refine bw_aload_n (i := 0) dX1_drawStep_58 rfl rfl ?_
      refine bw_iconst (v := 3) dX1_drawStep_59 (by decide) ?_
      obtain ⟨Q31, hr, h⟩ := h
      refine bw_cVi (As := [.int 3]) (st := [.ref 49]) cv_BentWords_Draws_19 rfl rfl hr rfl rfl (Nat.le_of_ble_eq_true rfl) dX1_drawStep_60 (fun v32 w33 hv => ?_)
      replace h := h v32 w33 hv
      clear hr
      refine bw_puti fp_BentWords_Draws_29 rfl rfl rfl dX1_drawStep_63 ?_
      refine bw_goto (tgt := 151) dX1_drawStep_66 (by decide) ?_
      exact bw_return dX1_drawStep_151 rfl ⟨rfl, h⟩
  · replace h := h.2 (c)
    refine bw_aload_n (i := 1) dX1_drawStep_12 rfl rfl ?_
    refine bw_iconst (v := 0) dX1_drawStep_13 (by decide) ?_
    refine bw_puti fp_BentWords_Draws_23 rfl rfl rfl dX1_drawStep_14 ?_
    refine bw_aload_n (i := 1) dX1_drawStep_17 rfl rfl ?_
    refine bw_aload_n (i := 0) dX1_drawStep_18 rfl rfl ?_
    refine bw_iconst (v := 3) dX1_drawStep_19 (by decide) ?_
    obtain ⟨Q34, hr, h⟩ := h
    refine bw_cVi (As := [.int 3]) (st := [.ref 49]) cv_BentWords_Draws_19 rfl rfl hr rfl rfl (Nat.le_of_ble_eq_true rfl) dX1_drawStep_20 (fun v35 w36 hv => ?_)
    replace h := h v35 w36 hv
    clear hr
    refine bw_puti fp_BentWords_Draws_29 rfl rfl rfl dX1_drawStep_23 ?_
    refine bw_aload_n (i := 1) dX1_drawStep_26 rfl rfl ?_
    refine bw_aload_n (i := 0) dX1_drawStep_27 rfl rfl ?_
    refine bw_iload_n (i := 2) dX1_drawStep_28 rfl rfl ?_
    obtain ⟨Q37, hr, h⟩ := h
    refine bw_cVi (As := [.int a1]) (st := [.ref 49]) cv_BentWords_Draws_19 rfl rfl hr rfl rfl (Nat.le_of_ble_eq_true rfl) dX1_drawStep_29 (fun v38 w39 hv => ?_)
    replace h := h v38 w39 hv
    clear hr
    refine bw_puti fp_BentWords_Draws_32 rfl rfl rfl dX1_drawStep_32 ?_
    refine bw_aload_n (i := 1) dX1_drawStep_35 rfl rfl ?_
    refine bw_aload_n (i := 0) dX1_drawStep_36 rfl rfl ?_
    refine bw_iconst (v := 4) dX1_drawStep_37 (by decide) ?_
    obtain ⟨Q40, hr, h⟩ := h
    refine bw_cVi (As := [.int 4]) (st := [.ref 49]) cv_BentWords_Draws_19 rfl rfl hr rfl rfl (Nat.le_of_ble_eq_true rfl) dX1_drawStep_38 (fun v41 w42 hv => ?_)
    replace h := h v41 w42 hv
    clear hr
    refine bw_puti fp_BentWords_Draws_35 rfl rfl rfl dX1_drawStep_41 ?_
    refine bw_goto (tgt := 151) dX1_drawStep_44 (by decide) ?_
    exact bw_return dX1_drawStep_151 rfl ⟨rfl, h⟩
theorem wfX4_readNoun {E : bw_E} {d : Nat} {w : bw_W} {Q : Bool → bw_W → Prop} {a0 : Int32}  (h : (((gw_i w 5 0) < 6 → (∃ Q1 : Bool → bw_W → Prop, bw_rb E (d + 1) mX0_takeWord [.ref 3] w Q1 ∧ ∀ v2 w3, Q1 v2 w3 →
((v2 = true → (∃ Q4 : Int32 → bw_W → Prop, bw_ri E (d + 1) mX3_nounNamed [.ref 5, .long (gw_l w3 3 5)] w3 Q4 ∧ ∀ v5 w6, Q4 v5 w6 →
((v5 = (-1) → (vp_in (gw_i w 5 0) 6) ∧
(∃ Q8 : Bool → bw_W → Prop, bw_rb E (d + 1) mX0_takeNumber [.ref 3, .int 1, .int 2] (sw_l w6 6 ((gw_i w 5 0).toNatClampNeg) (gw_l w6 3 5)) Q8 ∧ ∀ v9 w10, Q8 v9 w10 →
((v9 = true → (vp_in (gw_i w 5 0) 6) ∧
Q true (sw_i (sw_i w10 7 ((gw_i w 5 0).toNatClampNeg) (gw_i w10 3 4)) 5 0 ((gw_i w10 5 0) + 1))) ∧ (v9 = false → Q false w10)))) ∧ (¬ (v5 = (-1)) → (∃ Q12 : Bool → bw_W → Prop, bw_rb E (d + 1) mX0_fail [.ref 3, .int (gw_i w6 3 2)] w6 Q12 ∧ ∀ v13 w14, Q12 v13 w14 →
Q v13 w14))))) ∧ (v2 = false → Q false w3)))) ∧ (¬ ((gw_i w 5 0) < 6) → (∃ Q15 : Bool → bw_W → Prop, bw_rb E (d + 1) mX0_fail [.ref 3, .int a0] w Q15 ∧ ∀ v16 w17, Q15 v16 w17 →
Q v16 w17)))) : bw_rb E (d + 2) mX4_readNoun [.ref 4, .int a0] w Q := by
  refine bw_enter rfl (Nat.le_of_ble_eq_true rfl) ?_
  refine bw_aload_n (i := 0) dX4_readNoun_0 rfl rfl ?_
  refine bw_getr (r := 5) fg_BentWords_LexiconReader_18 rfl rfl dX4_readNoun_1 ?_
  refine bw_geti fg_BentWords_LexiconReader_41 rfl dX4_readNoun_4 ?_
  refine bw_istore_n (i := 2) (L' := [some (.ref 4), some (.int a0), some (.int (gw_i w 5 0))]) dX4_readNoun_7 rfl (Nat.le_of_ble_eq_true rfl) rfl ?_
  refine bw_iload_n (i := 2) dX4_readNoun_8 rfl rfl ?_
  refine bw_bipush (v := 6) dX4_readNoun_9 (by decide) ?_
  refine bw_icmp_lt (tgt := 23) dX4_readNoun_11 (by decide) (fun c => ?_) (fun c => ?_)
  · replace h := h.1 (c)
    refine bw_aload_n (i := 0) dX4_readNoun_23 rfl rfl ?_
    refine bw_getr (r := 3) fg_BentWords_LexiconReader_9 rfl rfl dX4_readNoun_24 ?_
    obtain ⟨Q1, hr, h⟩ := h
    refine bw_cVb (As := []) (st := []) cv_BentWords_LexiconReader_51 rfl rfl hr rfl rfl (Nat.le_of_ble_eq_true rfl) dX4_readNoun_27 (fun v2 w3 hv => ?_)
    replace h := h v2 w3 hv
    clear hr
    refine bw_ifb_ne (tgt := 35) dX4_readNoun_30 (by decide) (fun c => ?_) (fun c => ?_)
    · replace h := h.1 (c)
      refine bw_aload_n (i := 0) dX4_readNoun_35 rfl rfl ?_
      refine bw_getr (r := 5) fg_BentWords_LexiconReader_18 rfl rfl dX4_readNoun_36 ?_
      refine bw_aload_n (i := 0) dX4_readNoun_39 rfl rfl ?_
      refine bw_getr (r := 3) fg_BentWords_LexiconReader_9 rfl rfl dX4_readNoun_40 ?_
      refine bw_getl fg_BentWords_LexiconReader_95 rfl dX4_readNoun_43 ?_
      obtain ⟨Q4, hr, h⟩ := h
      refine bw_cVi (As := [.long (gw_l w3 3 5)]) (st := []) cv_BentWords_LexiconReader_99 rfl rfl hr rfl rfl (Nat.le_of_ble_eq_true rfl) dX4_readNoun_46 (fun v5 w6 hv => ?_)
      replace h := h v5 w6 hv
      clear hr
      refine bw_iconst (v := (-1)) dX4_readNoun_49 (by decide) ?_
      refine bw_icmp_eq (tgt := 68) dX4_readNoun_50 (by decide) (fun c => ?_) (fun c => ?_)
      · replace h := h.1 (c)
        refine bw_aload_n (i := 0) dX4_readNoun_68 rfl rfl ?_
        refine bw_getr (r := 5) fg_BentWords_LexiconReader_18 rfl rfl dX4_readNoun_69 ?_
        refine bw_getr (r := 6) fg_BentWords_LexiconReader_103 rfl rfl dX4_readNoun_72 ?_
        refine bw_iload_n (i := 2) dX4_readNoun_75 rfl rfl ?_
        refine bw_aload_n (i := 0) dX4_readNoun_76 rfl rfl ?_
        refine bw_getr (r := 3) fg_BentWords_LexiconReader_9 rfl rfl dX4_readNoun_77 ?_
        refine bw_getl fg_BentWords_LexiconReader_95 rfl dX4_readNoun_80 ?_
        obtain ⟨hi7, h⟩ := h
        refine bw_lastore rfl hi7 dX4_readNoun_83 ?_
        refine bw_aload_n (i := 0) dX4_readNoun_84 rfl rfl ?_
        refine bw_getr (r := 3) fg_BentWords_LexiconReader_9 rfl rfl dX4_readNoun_85 ?_
        refine bw_iconst (v := 1) dX4_readNoun_88 (by decide) ?_
        refine bw_iconst (v := 2) dX4_readNoun_89 (by decide) ?_
        obtain ⟨Q8, hr, h⟩ := h
        refine bw_cVb (As := [.int 1, .int 2]) (st := []) cv_BentWords_LexiconReader_106 rfl rfl hr rfl rfl (Nat.le_of_ble_eq_true rfl) dX4_readNoun_90 (fun v9 w10 hv => ?_)
        replace h := h v9 w10 hv
        clear hr
        refine bw_ifb_ne (tgt := 98) dX4_readNoun_93 (by decide) (fun c => ?_) (fun c => ?_)
        · replace h := h.1 (c)
          refine bw_aload_n (i := 0) dX4_readNoun_98 rfl rfl ?_
          refine bw_getr (r := 5) fg_BentWords_LexiconReader_18 rfl rfl dX4_readNoun_99 ?_
          refine bw_getr (r := 7) fg_BentWords_LexiconReader_110 rfl rfl dX4_readNoun_102 ?_
          refine bw_iload_n (i := 2) dX4_readNoun_105 rfl rfl ?_
          refine bw_aload_n (i := 0) dX4_readNoun_106 rfl rfl ?_
          refine bw_getr (r := 3) fg_BentWords_LexiconReader_9 rfl rfl dX4_readNoun_107 ?_
          refine bw_geti fg_BentWords_LexiconReader_114 rfl dX4_readNoun_110 ?_
          obtain ⟨hi11, h⟩ := h
          refine bw_iastore rfl hi11 dX4_readNoun_113 ?_
          refine bw_aload_n (i := 0) dX4_readNoun_114 rfl rfl ?_
          refine bw_getr (r := 5) fg_BentWords_LexiconReader_18 rfl rfl dX4_readNoun_115 ?_
          refine bw_dup dX4_readNoun_118 rfl ?_
          refine bw_geti fg_BentWords_LexiconReader_41 rfl dX4_readNoun_119 ?_
          rw [show gw_i (sw_i w10 7 ((gw_i w 5 0).toNatClampNeg) (gw_i w10 3 4)) 5 0 = (gw_i w10 5 0) from rfl]
          refine bw_iconst (v := 1) dX4_readNoun_122 (by decide) ?_
          refine bw_iadd dX4_readNoun_123 ?_
          refine bw_puti fp_BentWords_LexiconReader_41 rfl rfl rfl dX4_readNoun_124 ?_
          refine bw_iconst (v := 1) dX4_readNoun_127 (by decide) ?_
          exact bw_ireturn dX4_readNoun_128 rfl (bw_nb true) ⟨true, rfl, h⟩
        · replace h := h.2 (c)
          refine bw_iconst (v := 0) dX4_readNoun_96 (by decide) ?_
          exact bw_ireturn dX4_readNoun_97 rfl (bw_nb false) ⟨false, rfl, h⟩
      · replace h := h.2 (c)
        refine bw_aload_n (i := 0) dX4_readNoun_53 rfl rfl ?_
        refine bw_getr (r := 3) fg_BentWords_LexiconReader_9 rfl rfl dX4_readNoun_54 ?_
        refine bw_aload_n (i := 0) dX4_readNoun_57 rfl rfl ?_
        refine bw_getr (r := 3) fg_BentWords_LexiconReader_9 rfl rfl dX4_readNoun_58 ?_
        refine bw_geti fg_BentWords_LexiconReader_54 rfl dX4_readNoun_61 ?_
        obtain ⟨Q12, hr, h⟩ := h
        refine bw_cVb (As := [.int (gw_i w6 3 2)]) (st := []) cv_BentWords_LexiconReader_92 rfl rfl hr rfl rfl (Nat.le_of_ble_eq_true rfl) dX4_readNoun_64 (fun v13 w14 hv => ?_)
        replace h := h v13 w14 hv
        clear hr
        exact bw_ireturn dX4_readNoun_67 rfl (bw_nb _) ⟨_, rfl, h⟩
    · replace h := h.2 (c)
      refine bw_iconst (v := 0) dX4_readNoun_33 (by decide) ?_
      exact bw_ireturn dX4_readNoun_34 rfl (bw_nb false) ⟨false, rfl, h⟩
  · replace h := h.2 (c)
    refine bw_aload_n (i := 0) dX4_readNoun_14 rfl rfl ?_
    refine bw_getr (r := 3) fg_BentWords_LexiconReader_9 rfl rfl dX4_readNoun_15 ?_
    refine bw_iload_n (i := 1) dX4_readNoun_18 rfl rfl ?_
    obtain ⟨Q15, hr, h⟩ := h
    refine bw_cVb (As := [.int a0]) (st := []) cv_BentWords_LexiconReader_92 rfl rfl hr rfl rfl (Nat.le_of_ble_eq_true rfl) dX4_readNoun_19 (fun v16 w17 hv => ?_)
    replace h := h v16 w17 hv
    clear hr
    exact bw_ireturn dX4_readNoun_22 rfl (bw_nb _) ⟨_, rfl, h⟩
theorem wfX4_readWordOnce {E : bw_E} {d : Nat} {w : bw_W} {Q : Bool → bw_W → Prop} {a0 : Int32} {tn : Nat} {ta : Nat} {a2 : Int32} (h_ta : bw_sh ta = (2, tn, 0)) (h : (vp_in a2 tn) ∧
(((gw_l w ta (a2.toNatClampNeg)) = 0 → (∃ Q2 : Bool → bw_W → Prop, bw_rb E (d + 1) mX0_takeWord [.ref 3] w Q2 ∧ ∀ v3 w4, Q2 v3 w4 →
((v3 = true → (vp_in a2 tn) ∧
Q true (sw_l w4 ta (a2.toNatClampNeg) (gw_l w4 3 5))) ∧ (v3 = false → Q false w4)))) ∧ (¬ (gw_l w ta (a2.toNatClampNeg)) = 0 → (∃ Q6 : Bool → bw_W → Prop, bw_rb E (d + 1) mX0_fail [.ref 3, .int a0] w Q6 ∧ ∀ v7 w8, Q6 v7 w8 →
Q v7 w8)))) : bw_rb E (d + 2) mX4_readWordOnce [.ref 4, .int a0, .ref ta, .int a2] w Q := by
  refine bw_enter rfl (Nat.le_of_ble_eq_true rfl) ?_
  refine bw_aload_n (i := 2) dX4_readWordOnce_0 rfl rfl ?_
  refine bw_iload_n (i := 3) dX4_readWordOnce_1 rfl rfl ?_
  obtain ⟨hi1, h⟩ := h
  refine bw_laload h_ta hi1 dX4_readWordOnce_2 ?_
  refine bw_lconst (v := 0) dX4_readWordOnce_3 rfl ?_
  refine bw_lcmp_eq (tgt := 17) dX4_readWordOnce_4 dX4_readWordOnce_5 (by decide) (fun c => ?_) (fun c => ?_)
  · replace h := h.1 (c)
    refine bw_aload_n (i := 0) dX4_readWordOnce_17 rfl rfl ?_
    refine bw_getr (r := 3) fg_BentWords_LexiconReader_9 rfl rfl dX4_readWordOnce_18 ?_
    obtain ⟨Q2, hr, h⟩ := h
    refine bw_cVb (As := []) (st := []) cv_BentWords_LexiconReader_51 rfl rfl hr rfl rfl (Nat.le_of_ble_eq_true rfl) dX4_readWordOnce_21 (fun v3 w4 hv => ?_)
    replace h := h v3 w4 hv
    clear hr
    refine bw_ifb_ne (tgt := 29) dX4_readWordOnce_24 (by decide) (fun c => ?_) (fun c => ?_)
    · replace h := h.1 (c)
      refine bw_aload_n (i := 2) dX4_readWordOnce_29 rfl rfl ?_
      refine bw_iload_n (i := 3) dX4_readWordOnce_30 rfl rfl ?_
      refine bw_aload_n (i := 0) dX4_readWordOnce_31 rfl rfl ?_
      refine bw_getr (r := 3) fg_BentWords_LexiconReader_9 rfl rfl dX4_readWordOnce_32 ?_
      refine bw_getl fg_BentWords_LexiconReader_95 rfl dX4_readWordOnce_35 ?_
      obtain ⟨hi5, h⟩ := h
      refine bw_lastore h_ta hi5 dX4_readWordOnce_38 ?_
      refine bw_iconst (v := 1) dX4_readWordOnce_39 (by decide) ?_
      exact bw_ireturn dX4_readWordOnce_40 rfl (bw_nb true) ⟨true, rfl, h⟩
    · replace h := h.2 (c)
      refine bw_iconst (v := 0) dX4_readWordOnce_27 (by decide) ?_
      exact bw_ireturn dX4_readWordOnce_28 rfl (bw_nb false) ⟨false, rfl, h⟩
  · replace h := h.2 (c)
    refine bw_aload_n (i := 0) dX4_readWordOnce_8 rfl rfl ?_
    refine bw_getr (r := 3) fg_BentWords_LexiconReader_9 rfl rfl dX4_readWordOnce_9 ?_
    refine bw_iload_n (i := 1) dX4_readWordOnce_12 rfl rfl ?_
    obtain ⟨Q6, hr, h⟩ := h
    refine bw_cVb (As := [.int a0]) (st := []) cv_BentWords_LexiconReader_92 rfl rfl hr rfl rfl (Nat.le_of_ble_eq_true rfl) dX4_readWordOnce_13 (fun v7 w8 hv => ?_)
    replace h := h v7 w8 hv
    clear hr
    exact bw_ireturn dX4_readWordOnce_16 rfl (bw_nb _) ⟨_, rfl, h⟩
theorem wfX4_isAtClauseEnd {E : bw_E} {d : Nat} {w : bw_W} {Q : Bool → bw_W → Prop}   (h : (∃ Q1 : Int32 → bw_W → Prop, bw_ri E (d + 1) mX0_nextSign [.ref 3] w Q1 ∧ ∀ v2 w3, Q1 v2 w3 →
((v2 = 0 → Q true w3) ∧ (¬ (v2 = 0) → ((¬ v2 = 59 → Q false w3) ∧ (v2 = 59 → Q true w3)))))) : bw_rb E (d + 2) mX4_isAtClauseEnd [.ref 4] w Q := by
  refine bw_enter rfl (Nat.le_of_ble_eq_true rfl) ?_
  refine bw_aload_n (i := 0) dX4_isAtClauseEnd_0 rfl rfl ?_
  refine bw_getr (r := 3) fg_BentWords_LexiconReader_9 rfl rfl dX4_isAtClauseEnd_1 ?_
  obtain ⟨Q1, hr, h⟩ := h
  refine bw_cVi (As := []) (st := []) cv_BentWords_LexiconReader_47 rfl rfl hr rfl rfl (Nat.le_of_ble_eq_true rfl) dX4_isAtClauseEnd_4 (fun v2 w3 hv => ?_)
  replace h := h v2 w3 hv
  clear hr
  refine bw_istore_n (i := 1) (L' := [some (.ref 4), some (.int v2)]) dX4_isAtClauseEnd_7 rfl (Nat.le_of_ble_eq_true rfl) rfl ?_
  refine bw_iload_n (i := 1) dX4_isAtClauseEnd_8 rfl rfl ?_
  refine bw_if_eq (tgt := 18) dX4_isAtClauseEnd_9 (by decide) (fun c => ?_) (fun c => ?_)
  · replace h := h.1 (c)
    refine bw_iconst (v := 1) dX4_isAtClauseEnd_18 (by decide) ?_
    refine bw_goto (tgt := 23) dX4_isAtClauseEnd_19 (by decide) ?_
    exact bw_ireturn dX4_isAtClauseEnd_23 rfl (bw_nb true) ⟨true, rfl, h⟩
  · replace h := h.2 (c)
    refine bw_iload_n (i := 1) dX4_isAtClauseEnd_12 rfl rfl ?_
    refine bw_bipush (v := 59) dX4_isAtClauseEnd_13 (by decide) ?_
    refine bw_icmp_ne (tgt := 22) dX4_isAtClauseEnd_15 (by decide) (fun c => ?_) (fun c => ?_)
    · replace h := h.1 (c)
      refine bw_iconst (v := 0) dX4_isAtClauseEnd_22 (by decide) ?_
      exact bw_ireturn dX4_isAtClauseEnd_23 rfl (bw_nb false) ⟨false, rfl, h⟩
    · replace h := h.2 (c)
      refine bw_iconst (v := 1) dX4_isAtClauseEnd_18 (by decide) ?_
      refine bw_goto (tgt := 23) dX4_isAtClauseEnd_19 (by decide) ?_
      exact bw_ireturn dX4_isAtClauseEnd_23 rfl (bw_nb true) ⟨true, rfl, h⟩
theorem wfX4_readItem {E : bw_E} {d : Nat} {w : bw_W} {Q : Bool → bw_W → Prop} {a0 : Int32}  (h : (∃ Q1 : Int32 → bw_W → Prop, bw_ri E (d + 1) mX0_nextSign [.ref 3] w Q1 ∧ ∀ v2 w3, Q1 v2 w3 →
(∃ Q4 : Bool → bw_W → Prop, bw_rb E (d + 1) mX4_isItemSign [.int v2] w3 Q4 ∧ ∀ v5 w6, Q4 v5 w6 →
((v5 = true → (vp_in a0 32) ∧
(∃ Q8 : Bool → bw_W → Prop, bw_rb E (d + 1) mX0_takeNumber [.ref 3, .int 1, .int 2] (sw_i (sw_i w6 3 1 ((gw_i w6 3 1) + 1)) 13 (a0.toNatClampNeg) (vp_nar .char v2)) Q8 ∧ ∀ v9 w10, Q8 v9 w10 →
((v9 = true → (vp_in a0 32) ∧
((¬ v2 = 36 → ((v2 = 61 → (∃ Q12 : Bool → bw_W → Prop, bw_rb E (d + 1) mX0_takeNumber [.ref 3, .int 1, .int 2] (sw_i w10 14 (a0.toNatClampNeg) (gw_i w10 3 4)) Q12 ∧ ∀ v13 w14, Q12 v13 w14 →
((v13 = true → (vp_in a0 32) ∧
(vp_in a0 32) ∧
((¬ (gw_i w14 3 4) = (gw_i w14 14 (a0.toNatClampNeg)) → Q true (sw_i w14 15 (a0.toNatClampNeg) (gw_i w14 3 4))) ∧ ((gw_i w14 3 4) = (gw_i w14 14 (a0.toNatClampNeg)) → (∃ Q17 : Bool → bw_W → Prop, bw_rb E (d + 1) mX0_fail [.ref 3, .int (gw_i w14 3 2)] (sw_i w14 15 (a0.toNatClampNeg) (gw_i w14 3 4)) Q17 ∧ ∀ v18 w19, Q17 v18 w19 →
((v18 = false → Q false w19) ∧ (v18 = true → Q true w19)))))) ∧ (v13 = false → Q false w14)))) ∧ (¬ (v2 = 61) → ((¬ v2 = 33 → (∃ Q20 : Bool → bw_W → Prop, bw_rb E (d + 1) mX0_takeNumber [.ref 3, .int 1, .int 3] (sw_i w10 14 (a0.toNatClampNeg) (gw_i w10 3 4)) Q20 ∧ ∀ v21 w22, Q20 v21 w22 →
((v21 = true → (vp_in a0 32) ∧
Q true (sw_i w22 15 (a0.toNatClampNeg) (gw_i w22 3 4))) ∧ (v21 = false → Q false w22)))) ∧ (v2 = 33 → (∃ Q24 : Bool → bw_W → Prop, bw_rb E (d + 1) mX0_takeNumber [.ref 3, .int 1, .int 2] (sw_i w10 14 (a0.toNatClampNeg) (gw_i w10 3 4)) Q24 ∧ ∀ v25 w26, Q24 v25 w26 →
((v25 = true → (vp_in a0 32) ∧
(vp_in a0 32) ∧
((¬ (gw_i w26 3 4) = (gw_i w26 14 (a0.toNatClampNeg)) → Q true (sw_i w26 15 (a0.toNatClampNeg) (gw_i w26 3 4))) ∧ ((gw_i w26 3 4) = (gw_i w26 14 (a0.toNatClampNeg)) → (∃ Q29 : Bool → bw_W → Prop, bw_rb E (d + 1) mX0_fail [.ref 3, .int (gw_i w26 3 2)] (sw_i w26 15 (a0.toNatClampNeg) (gw_i w26 3 4)) Q29 ∧ ∀ v30 w31, Q29 v30 w31 →
((v30 = false → Q false w31) ∧ (v30 = true → Q true w31)))))) ∧ (v25 = false → Q false w26)))))))) ∧ (v2 = 36 → Q true (sw_i w10 14 (a0.toNatClampNeg) (gw_i w10 3 4))))) ∧ (v9 = false → Q false w10)))) ∧ (v5 = false → (∃ Q32 : Bool → bw_W → Prop, bw_rb E (d + 1) mX0_takeWord [.ref 3] w6 Q32 ∧ ∀ v33 w34, Q32 v33 w34 →
(vp_in a0 32) ∧
(vp_in a0 32) ∧
Q v33 (sw_l (sw_i w34 13 (a0.toNatClampNeg) (vp_nar .char 119)) 16 (a0.toNatClampNeg) (gw_l w34 3 5)))))))) : bw_rb E (d + 2) mX4_readItem [.ref 4, .int a0] w Q := by
  refine bw_enter rfl (Nat.le_of_ble_eq_true rfl) ?_
  refine bw_aload_n (i := 0) dX4_readItem_0 rfl rfl ?_
  refine bw_getr (r := 3) fg_BentWords_LexiconReader_9 rfl rfl dX4_readItem_1 ?_
  obtain ⟨Q1, hr, h⟩ := h
  refine bw_cVi (As := []) (st := []) cv_BentWords_LexiconReader_47 rfl rfl hr rfl rfl (Nat.le_of_ble_eq_true rfl) dX4_readItem_4 (fun v2 w3 hv => ?_)
  replace h := h v2 w3 hv
  clear hr
  refine bw_istore_n (i := 2) (L' := [some (.ref 4), some (.int a0), some (.int v2), none]) dX4_readItem_7 rfl (Nat.le_of_ble_eq_true rfl) rfl ?_
  refine bw_iload_n (i := 2) dX4_readItem_8 rfl rfl ?_
  obtain ⟨Q4, hr, h⟩ := h
  refine bw_cSb (As := [.int v2]) (st := []) cs_BentWords_LexiconReader_151 hr rfl rfl (Nat.le_of_ble_eq_true rfl) dX4_readItem_9 (fun v5 w6 hv => ?_)
  replace h := h v5 w6 hv
  clear hr
  refine bw_ifb_ne (tgt := 52) dX4_readItem_12 (by decide) (fun c => ?_) (fun c => ?_)
  · replace h := h.1 (c)
    refine bw_aload_n (i := 0) dX4_readItem_52 rfl rfl ?_
    refine bw_getr (r := 3) fg_BentWords_LexiconReader_9 rfl rfl dX4_readItem_53 ?_
    refine bw_dup dX4_readItem_56 rfl ?_
    refine bw_geti fg_BentWords_LexiconReader_44 rfl dX4_readItem_57 ?_
    refine bw_iconst (v := 1) dX4_readItem_60 (by decide) ?_
    refine bw_iadd dX4_readItem_61 ?_
    refine bw_puti fp_BentWords_LexiconReader_44 rfl rfl rfl dX4_readItem_62 ?_
    refine bw_aload_n (i := 0) dX4_readItem_65 rfl rfl ?_
    refine bw_getr (r := 5) fg_BentWords_LexiconReader_18 rfl rfl dX4_readItem_66 ?_
    refine bw_getr (r := 13) fg_BentWords_LexiconReader_155 rfl rfl dX4_readItem_69 ?_
    refine bw_iload_n (i := 1) dX4_readItem_72 rfl rfl ?_
    refine bw_iload_n (i := 2) dX4_readItem_73 rfl rfl ?_
    obtain ⟨hi7, h⟩ := h
    refine bw_castore rfl hi7 dX4_readItem_74 ?_
    refine bw_aload_n (i := 0) dX4_readItem_75 rfl rfl ?_
    refine bw_getr (r := 3) fg_BentWords_LexiconReader_9 rfl rfl dX4_readItem_76 ?_
    refine bw_iconst (v := 1) dX4_readItem_79 (by decide) ?_
    refine bw_iconst (v := 2) dX4_readItem_80 (by decide) ?_
    obtain ⟨Q8, hr, h⟩ := h
    refine bw_cVb (As := [.int 1, .int 2]) (st := []) cv_BentWords_LexiconReader_106 rfl rfl hr rfl rfl (Nat.le_of_ble_eq_true rfl) dX4_readItem_81 (fun v9 w10 hv => ?_)
    replace h := h v9 w10 hv
    clear hr
    refine bw_ifb_ne (tgt := 89) dX4_readItem_84 (by decide) (fun c => ?_) (fun c => ?_)
    · replace h := h.1 (c)
      refine bw_aload_n (i := 0) dX4_readItem_89 rfl rfl ?_
      refine bw_getr (r := 5) fg_BentWords_LexiconReader_18 rfl rfl dX4_readItem_90 ?_
      refine bw_getr (r := 14) fg_BentWords_LexiconReader_162 rfl rfl dX4_readItem_93 ?_
      refine bw_iload_n (i := 1) dX4_readItem_96 rfl rfl ?_
      refine bw_aload_n (i := 0) dX4_readItem_97 rfl rfl ?_
      refine bw_getr (r := 3) fg_BentWords_LexiconReader_9 rfl rfl dX4_readItem_98 ?_
      refine bw_geti fg_BentWords_LexiconReader_114 rfl dX4_readItem_101 ?_
      obtain ⟨hi11, h⟩ := h
      refine bw_iastore rfl hi11 dX4_readItem_104 ?_
      refine bw_iload_n (i := 2) dX4_readItem_105 rfl rfl ?_
      refine bw_bipush (v := 36) dX4_readItem_106 (by decide) ?_
      refine bw_icmp_ne (tgt := 113) dX4_readItem_108 (by decide) (fun c => ?_) (fun c => ?_)
      · replace h := h.1 (c)
        refine bw_iload_n (i := 2) dX4_readItem_113 rfl rfl ?_
        refine bw_bipush (v := 61) dX4_readItem_114 (by decide) ?_
        refine bw_icmp_eq (tgt := 125) dX4_readItem_116 (by decide) (fun c => ?_) (fun c => ?_)
        · replace h := h.1 (c)
          refine bw_iconst (v := 1) dX4_readItem_125 (by decide) ?_
          refine bw_goto (tgt := 130) dX4_readItem_126 (by decide) ?_
          refine bw_istore_n (i := 3) (L' := [some (.ref 4), some (.int a0), some (.int v2), some (.int 1)]) dX4_readItem_130 rfl (Nat.le_of_ble_eq_true rfl) rfl ?_
          refine bw_aload_n (i := 0) dX4_readItem_131 rfl rfl ?_
          refine bw_getr (r := 3) fg_BentWords_LexiconReader_9 rfl rfl dX4_readItem_132 ?_
          refine bw_iconst (v := 1) dX4_readItem_135 (by decide) ?_
          refine bw_iload_n (i := 3) dX4_readItem_136 rfl rfl ?_
          refine bw_if_eq (tgt := 144) dX4_readItem_137 (by decide) (fun c => absurd c (by decide)) (fun _ => ?_)
          refine bw_iconst (v := 2) dX4_readItem_140 (by decide) ?_
          refine bw_goto (tgt := 145) dX4_readItem_141 (by decide) ?_
          obtain ⟨Q12, hr, h⟩ := h
          refine bw_cVb (As := [.int 1, .int 2]) (st := []) cv_BentWords_LexiconReader_106 rfl rfl hr rfl rfl (Nat.le_of_ble_eq_true rfl) dX4_readItem_145 (fun v13 w14 hv => ?_)
          replace h := h v13 w14 hv
          clear hr
          refine bw_ifb_ne (tgt := 153) dX4_readItem_148 (by decide) (fun c => ?_) (fun c => ?_)
          · replace h := h.1 (c)
            refine bw_aload_n (i := 0) dX4_readItem_153 rfl rfl ?_
            refine bw_getr (r := 5) fg_BentWords_LexiconReader_18 rfl rfl dX4_readItem_154 ?_
            refine bw_getr (r := 15) fg_BentWords_LexiconReader_165 rfl rfl dX4_readItem_157 ?_
            refine bw_iload_n (i := 1) dX4_readItem_160 rfl rfl ?_
            refine bw_aload_n (i := 0) dX4_readItem_161 rfl rfl ?_
            refine bw_getr (r := 3) fg_BentWords_LexiconReader_9 rfl rfl dX4_readItem_162 ?_
            refine bw_geti fg_BentWords_LexiconReader_114 rfl dX4_readItem_165 ?_
            obtain ⟨hi15, h⟩ := h
            refine bw_iastore rfl hi15 dX4_readItem_168 ?_
            refine bw_iload_n (i := 3) dX4_readItem_169 rfl rfl ?_
            refine bw_if_eq (tgt := 209) dX4_readItem_170 (by decide) (fun c => absurd c (by decide)) (fun _ => ?_)
            refine bw_aload_n (i := 0) dX4_readItem_173 rfl rfl ?_
            refine bw_getr (r := 3) fg_BentWords_LexiconReader_9 rfl rfl dX4_readItem_174 ?_
            refine bw_geti fg_BentWords_LexiconReader_114 rfl dX4_readItem_177 ?_
            rw [show gw_i (sw_i w14 15 (a0.toNatClampNeg) (gw_i w14 3 4)) 3 4 = (gw_i w14 3 4) from rfl]
            refine bw_aload_n (i := 0) dX4_readItem_180 rfl rfl ?_
            refine bw_getr (r := 5) fg_BentWords_LexiconReader_18 rfl rfl dX4_readItem_181 ?_
            refine bw_getr (r := 14) fg_BentWords_LexiconReader_162 rfl rfl dX4_readItem_184 ?_
            refine bw_iload_n (i := 1) dX4_readItem_187 rfl rfl ?_
            obtain ⟨hi16, h⟩ := h
            refine bw_iaload rfl hi16 dX4_readItem_188 ?_
            rw [show gw_i (sw_i w14 15 (a0.toNatClampNeg) (gw_i w14 3 4)) 14 (a0.toNatClampNeg) = (gw_i w14 14 (a0.toNatClampNeg)) from by first | rfl | (simp [gs_ii, gs_ll, gs_il, gs_li]; done)]
            refine bw_icmp_ne (tgt := 209) dX4_readItem_189 (by decide) (fun c => ?_) (fun c => ?_)
            · replace h := h.1 (c)
              refine bw_iconst (v := 1) dX4_readItem_209 (by decide) ?_
              refine bw_goto (tgt := 214) dX4_readItem_210 (by decide) ?_
              exact bw_ireturn dX4_readItem_214 rfl (bw_nb true) ⟨true, rfl, h⟩
            · replace h := h.2 (c)
              refine bw_aload_n (i := 0) dX4_readItem_192 rfl rfl ?_
              refine bw_getr (r := 3) fg_BentWords_LexiconReader_9 rfl rfl dX4_readItem_193 ?_
              refine bw_aload_n (i := 0) dX4_readItem_196 rfl rfl ?_
              refine bw_getr (r := 3) fg_BentWords_LexiconReader_9 rfl rfl dX4_readItem_197 ?_
              refine bw_geti fg_BentWords_LexiconReader_54 rfl dX4_readItem_200 ?_
              rw [show gw_i (sw_i w14 15 (a0.toNatClampNeg) (gw_i w14 3 4)) 3 2 = (gw_i w14 3 2) from rfl]
              obtain ⟨Q17, hr, h⟩ := h
              refine bw_cVb (As := [.int (gw_i w14 3 2)]) (st := []) cv_BentWords_LexiconReader_92 rfl rfl hr rfl rfl (Nat.le_of_ble_eq_true rfl) dX4_readItem_203 (fun v18 w19 hv => ?_)
              replace h := h v18 w19 hv
              clear hr
              refine bw_ifb_eq (tgt := 213) dX4_readItem_206 (by decide) (fun c => ?_) (fun c => ?_)
              · replace h := h.1 (c)
                refine bw_iconst (v := 0) dX4_readItem_213 (by decide) ?_
                exact bw_ireturn dX4_readItem_214 rfl (bw_nb false) ⟨false, rfl, h⟩
              · replace h := h.2 (c)
                refine bw_iconst (v := 1) dX4_readItem_209 (by decide) ?_
                refine bw_goto (tgt := 214) dX4_readItem_210 (by decide) ?_
                exact bw_ireturn dX4_readItem_214 rfl (bw_nb true) ⟨true, rfl, h⟩
          · replace h := h.2 (c)
            refine bw_iconst (v := 0) dX4_readItem_151 (by decide) ?_
            exact bw_ireturn dX4_readItem_152 rfl (bw_nb false) ⟨false, rfl, h⟩
        · replace h := h.2 (c)
          refine bw_iload_n (i := 2) dX4_readItem_119 rfl rfl ?_
          refine bw_bipush (v := 33) dX4_readItem_120 (by decide) ?_
          refine bw_icmp_ne (tgt := 129) dX4_readItem_122 (by decide) (fun c => ?_) (fun c => ?_)
          · replace h := h.1 (c)
            refine bw_iconst (v := 0) dX4_readItem_129 (by decide) ?_
            refine bw_istore_n (i := 3) (L' := [some (.ref 4), some (.int a0), some (.int v2), some (.int 0)]) dX4_readItem_130 rfl (Nat.le_of_ble_eq_true rfl) rfl ?_
            refine bw_aload_n (i := 0) dX4_readItem_131 rfl rfl ?_
            refine bw_getr (r := 3) fg_BentWords_LexiconReader_9 rfl rfl dX4_readItem_132 ?_
            refine bw_iconst (v := 1) dX4_readItem_135 (by decide) ?_
            refine bw_iload_n (i := 3) dX4_readItem_136 rfl rfl ?_
            refine bw_if_eq (tgt := 144) dX4_readItem_137 (by decide) (fun _ => ?_) (fun c => absurd c (by decide))
            refine bw_iconst (v := 3) dX4_readItem_144 (by decide) ?_
            obtain ⟨Q20, hr, h⟩ := h
            refine bw_cVb (As := [.int 1, .int 3]) (st := []) cv_BentWords_LexiconReader_106 rfl rfl hr rfl rfl (Nat.le_of_ble_eq_true rfl) dX4_readItem_145 (fun v21 w22 hv => ?_)
            replace h := h v21 w22 hv
            clear hr
            refine bw_ifb_ne (tgt := 153) dX4_readItem_148 (by decide) (fun c => ?_) (fun c => ?_)
            · replace h := h.1 (c)
              refine bw_aload_n (i := 0) dX4_readItem_153 rfl rfl ?_
              refine bw_getr (r := 5) fg_BentWords_LexiconReader_18 rfl rfl dX4_readItem_154 ?_
              refine bw_getr (r := 15) fg_BentWords_LexiconReader_165 rfl rfl dX4_readItem_157 ?_
              refine bw_iload_n (i := 1) dX4_readItem_160 rfl rfl ?_
              refine bw_aload_n (i := 0) dX4_readItem_161 rfl rfl ?_
              refine bw_getr (r := 3) fg_BentWords_LexiconReader_9 rfl rfl dX4_readItem_162 ?_
              refine bw_geti fg_BentWords_LexiconReader_114 rfl dX4_readItem_165 ?_
              obtain ⟨hi23, h⟩ := h
              refine bw_iastore rfl hi23 dX4_readItem_168 ?_
              refine bw_iload_n (i := 3) dX4_readItem_169 rfl rfl ?_
              refine bw_if_eq (tgt := 209) dX4_readItem_170 (by decide) (fun _ => ?_) (fun c => absurd c (by decide))
              refine bw_iconst (v := 1) dX4_readItem_209 (by decide) ?_
              refine bw_goto (tgt := 214) dX4_readItem_210 (by decide) ?_
              exact bw_ireturn dX4_readItem_214 rfl (bw_nb true) ⟨true, rfl, h⟩
            · replace h := h.2 (c)
              refine bw_iconst (v := 0) dX4_readItem_151 (by decide) ?_
              exact bw_ireturn dX4_readItem_152 rfl (bw_nb false) ⟨false, rfl, h⟩
          · replace h := h.2 (c)
            refine bw_iconst (v := 1) dX4_readItem_125 (by decide) ?_
            refine bw_goto (tgt := 130) dX4_readItem_126 (by decide) ?_
            refine bw_istore_n (i := 3) (L' := [some (.ref 4), some (.int a0), some (.int v2), some (.int 1)]) dX4_readItem_130 rfl (Nat.le_of_ble_eq_true rfl) rfl ?_
            refine bw_aload_n (i := 0) dX4_readItem_131 rfl rfl ?_
            refine bw_getr (r := 3) fg_BentWords_LexiconReader_9 rfl rfl dX4_readItem_132 ?_
            refine bw_iconst (v := 1) dX4_readItem_135 (by decide) ?_
            refine bw_iload_n (i := 3) dX4_readItem_136 rfl rfl ?_
            refine bw_if_eq (tgt := 144) dX4_readItem_137 (by decide) (fun c => absurd c (by decide)) (fun _ => ?_)
            refine bw_iconst (v := 2) dX4_readItem_140 (by decide) ?_
            refine bw_goto (tgt := 145) dX4_readItem_141 (by decide) ?_
            obtain ⟨Q24, hr, h⟩ := h
            refine bw_cVb (As := [.int 1, .int 2]) (st := []) cv_BentWords_LexiconReader_106 rfl rfl hr rfl rfl (Nat.le_of_ble_eq_true rfl) dX4_readItem_145 (fun v25 w26 hv => ?_)
            replace h := h v25 w26 hv
            clear hr
            refine bw_ifb_ne (tgt := 153) dX4_readItem_148 (by decide) (fun c => ?_) (fun c => ?_)
            · replace h := h.1 (c)
              refine bw_aload_n (i := 0) dX4_readItem_153 rfl rfl ?_
              refine bw_getr (r := 5) fg_BentWords_LexiconReader_18 rfl rfl dX4_readItem_154 ?_
              refine bw_getr (r := 15) fg_BentWords_LexiconReader_165 rfl rfl dX4_readItem_157 ?_
              refine bw_iload_n (i := 1) dX4_readItem_160 rfl rfl ?_
              refine bw_aload_n (i := 0) dX4_readItem_161 rfl rfl ?_
              refine bw_getr (r := 3) fg_BentWords_LexiconReader_9 rfl rfl dX4_readItem_162 ?_
              refine bw_geti fg_BentWords_LexiconReader_114 rfl dX4_readItem_165 ?_
              obtain ⟨hi27, h⟩ := h
              refine bw_iastore rfl hi27 dX4_readItem_168 ?_
              refine bw_iload_n (i := 3) dX4_readItem_169 rfl rfl ?_
              refine bw_if_eq (tgt := 209) dX4_readItem_170 (by decide) (fun c => absurd c (by decide)) (fun _ => ?_)
              refine bw_aload_n (i := 0) dX4_readItem_173 rfl rfl ?_
              refine bw_getr (r := 3) fg_BentWords_LexiconReader_9 rfl rfl dX4_readItem_174 ?_
              refine bw_geti fg_BentWords_LexiconReader_114 rfl dX4_readItem_177 ?_
              rw [show gw_i (sw_i w26 15 (a0.toNatClampNeg) (gw_i w26 3 4)) 3 4 = (gw_i w26 3 4) from rfl]
              refine bw_aload_n (i := 0) dX4_readItem_180 rfl rfl ?_
              refine bw_getr (r := 5) fg_BentWords_LexiconReader_18 rfl rfl dX4_readItem_181 ?_
              refine bw_getr (r := 14) fg_BentWords_LexiconReader_162 rfl rfl dX4_readItem_184 ?_
              refine bw_iload_n (i := 1) dX4_readItem_187 rfl rfl ?_
              obtain ⟨hi28, h⟩ := h
              refine bw_iaload rfl hi28 dX4_readItem_188 ?_
              rw [show gw_i (sw_i w26 15 (a0.toNatClampNeg) (gw_i w26 3 4)) 14 (a0.toNatClampNeg) = (gw_i w26 14 (a0.toNatClampNeg)) from by first | rfl | (simp [gs_ii, gs_ll, gs_il, gs_li]; done)]
              refine bw_icmp_ne (tgt := 209) dX4_readItem_189 (by decide) (fun c => ?_) (fun c => ?_)
              · replace h := h.1 (c)
                refine bw_iconst (v := 1) dX4_readItem_209 (by decide) ?_
                refine bw_goto (tgt := 214) dX4_readItem_210 (by decide) ?_
                exact bw_ireturn dX4_readItem_214 rfl (bw_nb true) ⟨true, rfl, h⟩
              · replace h := h.2 (c)
                refine bw_aload_n (i := 0) dX4_readItem_192 rfl rfl ?_
                refine bw_getr (r := 3) fg_BentWords_LexiconReader_9 rfl rfl dX4_readItem_193 ?_
                refine bw_aload_n (i := 0) dX4_readItem_196 rfl rfl ?_
                refine bw_getr (r := 3) fg_BentWords_LexiconReader_9 rfl rfl dX4_readItem_197 ?_
                refine bw_geti fg_BentWords_LexiconReader_54 rfl dX4_readItem_200 ?_
                rw [show gw_i (sw_i w26 15 (a0.toNatClampNeg) (gw_i w26 3 4)) 3 2 = (gw_i w26 3 2) from rfl]
                obtain ⟨Q29, hr, h⟩ := h
                refine bw_cVb (As := [.int (gw_i w26 3 2)]) (st := []) cv_BentWords_LexiconReader_92 rfl rfl hr rfl rfl (Nat.le_of_ble_eq_true rfl) dX4_readItem_203 (fun v30 w31 hv => ?_)
                replace h := h v30 w31 hv
                clear hr
                refine bw_ifb_eq (tgt := 213) dX4_readItem_206 (by decide) (fun c => ?_) (fun c => ?_)
                · replace h := h.1 (c)
                  refine bw_iconst (v := 0) dX4_readItem_213 (by decide) ?_
                  exact bw_ireturn dX4_readItem_214 rfl (bw_nb false) ⟨false, rfl, h⟩
                · replace h := h.2 (c)
                  refine bw_iconst (v := 1) dX4_readItem_209 (by decide) ?_
                  refine bw_goto (tgt := 214) dX4_readItem_210 (by decide) ?_
                  exact bw_ireturn dX4_readItem_214 rfl (bw_nb true) ⟨true, rfl, h⟩
            · replace h := h.2 (c)
              refine bw_iconst (v := 0) dX4_readItem_151 (by decide) ?_
              exact bw_ireturn dX4_readItem_152 rfl (bw_nb false) ⟨false, rfl, h⟩
      · replace h := h.2 (c)
        refine bw_iconst (v := 1) dX4_readItem_111 (by decide) ?_
        exact bw_ireturn dX4_readItem_112 rfl (bw_nb true) ⟨true, rfl, h⟩
    · replace h := h.2 (c)
      refine bw_iconst (v := 0) dX4_readItem_87 (by decide) ?_
      exact bw_ireturn dX4_readItem_88 rfl (bw_nb false) ⟨false, rfl, h⟩
  · replace h := h.2 (c)
    refine bw_aload_n (i := 0) dX4_readItem_15 rfl rfl ?_
    refine bw_getr (r := 3) fg_BentWords_LexiconReader_9 rfl rfl dX4_readItem_16 ?_
    obtain ⟨Q32, hr, h⟩ := h
    refine bw_cVb (As := []) (st := []) cv_BentWords_LexiconReader_51 rfl rfl hr rfl rfl (Nat.le_of_ble_eq_true rfl) dX4_readItem_19 (fun v33 w34 hv => ?_)
    replace h := h v33 w34 hv
    clear hr
    refine bw_istore_n (i := 3) (L' := [some (.ref 4), some (.int a0), some (.int v2), some (.int (bw_b v33))]) dX4_readItem_22 rfl (Nat.le_of_ble_eq_true rfl) rfl ?_
    refine bw_aload_n (i := 0) dX4_readItem_23 rfl rfl ?_
    refine bw_getr (r := 5) fg_BentWords_LexiconReader_18 rfl rfl dX4_readItem_24 ?_
    refine bw_getr (r := 13) fg_BentWords_LexiconReader_155 rfl rfl dX4_readItem_27 ?_
    refine bw_iload_n (i := 1) dX4_readItem_30 rfl rfl ?_
    refine bw_bipush (v := 119) dX4_readItem_31 (by decide) ?_
    obtain ⟨hi35, h⟩ := h
    refine bw_castore rfl hi35 dX4_readItem_33 ?_
    refine bw_aload_n (i := 0) dX4_readItem_34 rfl rfl ?_
    refine bw_getr (r := 5) fg_BentWords_LexiconReader_18 rfl rfl dX4_readItem_35 ?_
    refine bw_getr (r := 16) fg_BentWords_LexiconReader_159 rfl rfl dX4_readItem_38 ?_
    refine bw_iload_n (i := 1) dX4_readItem_41 rfl rfl ?_
    refine bw_aload_n (i := 0) dX4_readItem_42 rfl rfl ?_
    refine bw_getr (r := 3) fg_BentWords_LexiconReader_9 rfl rfl dX4_readItem_43 ?_
    refine bw_getl fg_BentWords_LexiconReader_95 rfl dX4_readItem_46 ?_
    rw [show gw_l (sw_i w34 13 (a0.toNatClampNeg) (vp_nar .char 119)) 3 5 = (gw_l w34 3 5) from rfl]
    obtain ⟨hi36, h⟩ := h
    refine bw_lastore rfl hi36 dX4_readItem_49 ?_
    refine bw_iload_n (i := 3) dX4_readItem_50 rfl rfl ?_
    exact bw_ireturn dX4_readItem_51 rfl (bw_nb _) ⟨_, rfl, h⟩
theorem wfX6_readA {E : bw_E} {d : Nat} {w : bw_W} {Q : Bool → bw_W → Prop} {sp : Nat} {a1 : Int32} (h_sp : bw_sh sp = (0, 8, 5)) (h : (∃ Q1 : Bool → bw_W → Prop, bw_rb E (d + 1) mX0_takeNumber [.ref 3, .int 1, .int a1] w Q1 ∧ ∀ v2 w3, Q1 v2 w3 →
Q v2 (sw_i w3 sp 1 (gw_i w3 3 4)))) : bw_rb E (d + 2) mX6_readA [.ref 17, .ref sp, .int a1] w Q := by
  refine bw_enter rfl (Nat.le_of_ble_eq_true rfl) ?_
  refine bw_aload_n (i := 0) dX6_readA_0 rfl rfl ?_
  refine bw_getr (r := 3) fg_BentWords_ScriptReader_9 rfl rfl dX6_readA_1 ?_
  refine bw_iconst (v := 1) dX6_readA_4 (by decide) ?_
  refine bw_iload_n (i := 2) dX6_readA_5 rfl rfl ?_
  obtain ⟨Q1, hr, h⟩ := h
  refine bw_cVb (As := [.int 1, .int a1]) (st := []) cv_BentWords_ScriptReader_97 rfl rfl hr rfl rfl (Nat.le_of_ble_eq_true rfl) dX6_readA_6 (fun v2 w3 hv => ?_)
  replace h := h v2 w3 hv
  clear hr
  refine bw_istore_n (i := 3) (L' := [some (.ref 17), some (.ref sp), some (.int a1), some (.int (bw_b v2))]) dX6_readA_9 rfl (Nat.le_of_ble_eq_true rfl) rfl ?_
  refine bw_aload_n (i := 1) dX6_readA_10 rfl rfl ?_
  refine bw_aload_n (i := 0) dX6_readA_11 rfl rfl ?_
  refine bw_getr (r := 3) fg_BentWords_ScriptReader_9 rfl rfl dX6_readA_12 ?_
  refine bw_geti fg_BentWords_ScriptReader_101 rfl dX6_readA_15 ?_
  refine bw_puti fp_BentWords_ScriptReader_104 h_sp rfl rfl dX6_readA_18 ?_
  refine bw_iload_n (i := 3) dX6_readA_21 rfl rfl ?_
  exact bw_ireturn dX6_readA_22 rfl (bw_nb _) ⟨_, rfl, h⟩
theorem wfX6_readB {E : bw_E} {d : Nat} {w : bw_W} {Q : Bool → bw_W → Prop} {sp : Nat} {a1 : Int32} (h_sp : bw_sh sp = (0, 8, 5)) (h : (∃ Q1 : Bool → bw_W → Prop, bw_rb E (d + 1) mX0_takeNumber [.ref 3, .int 1, .int a1] w Q1 ∧ ∀ v2 w3, Q1 v2 w3 →
Q v2 (sw_i w3 sp 2 (gw_i w3 3 4)))) : bw_rb E (d + 2) mX6_readB [.ref 17, .ref sp, .int a1] w Q := by
  refine bw_enter rfl (Nat.le_of_ble_eq_true rfl) ?_
  refine bw_aload_n (i := 0) dX6_readB_0 rfl rfl ?_
  refine bw_getr (r := 3) fg_BentWords_ScriptReader_9 rfl rfl dX6_readB_1 ?_
  refine bw_iconst (v := 1) dX6_readB_4 (by decide) ?_
  refine bw_iload_n (i := 2) dX6_readB_5 rfl rfl ?_
  obtain ⟨Q1, hr, h⟩ := h
  refine bw_cVb (As := [.int 1, .int a1]) (st := []) cv_BentWords_ScriptReader_97 rfl rfl hr rfl rfl (Nat.le_of_ble_eq_true rfl) dX6_readB_6 (fun v2 w3 hv => ?_)
  replace h := h v2 w3 hv
  clear hr
  refine bw_istore_n (i := 3) (L' := [some (.ref 17), some (.ref sp), some (.int a1), some (.int (bw_b v2))]) dX6_readB_9 rfl (Nat.le_of_ble_eq_true rfl) rfl ?_
  refine bw_aload_n (i := 1) dX6_readB_10 rfl rfl ?_
  refine bw_aload_n (i := 0) dX6_readB_11 rfl rfl ?_
  refine bw_getr (r := 3) fg_BentWords_ScriptReader_9 rfl rfl dX6_readB_12 ?_
  refine bw_geti fg_BentWords_ScriptReader_101 rfl dX6_readB_15 ?_
  refine bw_puti fp_BentWords_ScriptReader_107 h_sp rfl rfl dX6_readB_18 ?_
  refine bw_iload_n (i := 3) dX6_readB_21 rfl rfl ?_
  exact bw_ireturn dX6_readB_22 rfl (bw_nb _) ⟨_, rfl, h⟩
theorem wfX6_readCount {E : bw_E} {d : Nat} {w : bw_W} {Q : Bool → bw_W → Prop} {sp : Nat} (h_sp : bw_sh sp = (0, 8, 5)) (h : (∃ Q1 : Bool → bw_W → Prop, bw_rb E (d + 1) mX0_takeNumber [.ref 3, .int 2, .int 99] w Q1 ∧ ∀ v2 w3, Q1 v2 w3 →
Q v2 (sw_i w3 sp 3 (gw_i w3 3 4)))) : bw_rb E (d + 2) mX6_readCount [.ref 17, .ref sp] w Q := by
  refine bw_enter rfl (Nat.le_of_ble_eq_true rfl) ?_
  refine bw_aload_n (i := 0) dX6_readCount_0 rfl rfl ?_
  refine bw_getr (r := 3) fg_BentWords_ScriptReader_9 rfl rfl dX6_readCount_1 ?_
  refine bw_iconst (v := 2) dX6_readCount_4 (by decide) ?_
  refine bw_bipush (v := 99) dX6_readCount_5 (by decide) ?_
  obtain ⟨Q1, hr, h⟩ := h
  refine bw_cVb (As := [.int 2, .int 99]) (st := []) cv_BentWords_ScriptReader_97 rfl rfl hr rfl rfl (Nat.le_of_ble_eq_true rfl) dX6_readCount_7 (fun v2 w3 hv => ?_)
  replace h := h v2 w3 hv
  clear hr
  refine bw_istore_n (i := 2) (L' := [some (.ref 17), some (.ref sp), some (.int (bw_b v2))]) dX6_readCount_10 rfl (Nat.le_of_ble_eq_true rfl) rfl ?_
  refine bw_aload_n (i := 1) dX6_readCount_11 rfl rfl ?_
  refine bw_aload_n (i := 0) dX6_readCount_12 rfl rfl ?_
  refine bw_getr (r := 3) fg_BentWords_ScriptReader_9 rfl rfl dX6_readCount_13 ?_
  refine bw_geti fg_BentWords_ScriptReader_101 rfl dX6_readCount_16 ?_
  refine bw_puti fp_BentWords_ScriptReader_110 h_sp rfl rfl dX6_readCount_19 ?_
  refine bw_iload_n (i := 2) dX6_readCount_22 rfl rfl ?_
  exact bw_ireturn dX6_readCount_23 rfl (bw_nb _) ⟨_, rfl, h⟩
theorem wfX6_readWord {E : bw_E} {d : Nat} {w : bw_W} {Q : Bool → bw_W → Prop} {sp : Nat} (h_sp : bw_sh sp = (0, 8, 5)) (h : (∃ Q1 : Bool → bw_W → Prop, bw_rb E (d + 1) mX0_takeWord [.ref 3] w Q1 ∧ ∀ v2 w3, Q1 v2 w3 →
Q v2 (sw_l w3 sp 4 (gw_l w3 3 5)))) : bw_rb E (d + 2) mX6_readWord [.ref 17, .ref sp] w Q := by
  refine bw_enter rfl (Nat.le_of_ble_eq_true rfl) ?_
  refine bw_aload_n (i := 0) dX6_readWord_0 rfl rfl ?_
  refine bw_getr (r := 3) fg_BentWords_ScriptReader_9 rfl rfl dX6_readWord_1 ?_
  obtain ⟨Q1, hr, h⟩ := h
  refine bw_cVb (As := []) (st := []) cv_BentWords_ScriptReader_48 rfl rfl hr rfl rfl (Nat.le_of_ble_eq_true rfl) dX6_readWord_4 (fun v2 w3 hv => ?_)
  replace h := h v2 w3 hv
  clear hr
  refine bw_istore_n (i := 2) (L' := [some (.ref 17), some (.ref sp), some (.int (bw_b v2))]) dX6_readWord_7 rfl (Nat.le_of_ble_eq_true rfl) rfl ?_
  refine bw_aload_n (i := 1) dX6_readWord_8 rfl rfl ?_
  refine bw_aload_n (i := 0) dX6_readWord_9 rfl rfl ?_
  refine bw_getr (r := 3) fg_BentWords_ScriptReader_9 rfl rfl dX6_readWord_10 ?_
  refine bw_getl fg_BentWords_ScriptReader_113 rfl dX6_readWord_13 ?_
  refine bw_putl fp_BentWords_ScriptReader_117 h_sp dX6_readWord_16 ?_
  refine bw_iload_n (i := 2) dX6_readWord_19 rfl rfl ?_
  exact bw_ireturn dX6_readWord_20 rfl (bw_nb _) ⟨_, rfl, h⟩
theorem wfX10_formAt {E : bw_E} {d : Nat} {w : bw_W} {Q : Int64 → bw_W → Prop} {a0 : Int32} {a1 : Int32}  (h : (∃ Q1 : Int64 → bw_W → Prop, bw_rl E (d + 1) mX10_formOf [.ref 35, .int a0, .int (a1 / 2), .int (a1 - a1 / 2 * 2)] w Q1 ∧ ∀ v2 w3, Q1 v2 w3 →
Q v2 w3)) : bw_rl E (d + 2) mX10_formAt [.ref 35, .int a0, .int a1] w Q := by
  refine bw_enter rfl (Nat.le_of_ble_eq_true rfl) ?_
  refine bw_aload_n (i := 0) dX10_formAt_0 rfl rfl ?_
  refine bw_iload_n (i := 1) dX10_formAt_1 rfl rfl ?_
  refine bw_iload_n (i := 2) dX10_formAt_2 rfl rfl ?_
  refine bw_iconst (v := 2) dX10_formAt_3 (by decide) ?_
  refine bw_idiv dX10_formAt_4 (by decide) ?_
  refine bw_iload_n (i := 2) dX10_formAt_5 rfl rfl ?_
  refine bw_iconst (v := 2) dX10_formAt_6 (by decide) ?_
  refine bw_irem dX10_formAt_7 (by decide) ?_
  obtain ⟨Q1, hr, h⟩ := h
  refine bw_cVl (As := [.int a0, .int (a1 / 2), .int (a1 - a1 / 2 * 2)]) (st := []) cv_BentWords_Teller_41 rfl rfl hr rfl rfl (Nat.le_of_ble_eq_true rfl) dX10_formAt_8 (fun v2 w3 hv => ?_)
  replace h := h v2 w3 hv
  clear hr
  exact bw_lreturn dX10_formAt_11 rfl ⟨_, rfl, h⟩
theorem wfX10_canTellItem {E : bw_E} {d : Nat} {w : bw_W} {Q : Bool → bw_W → Prop} {a0 : Int32}  (h : (vp_in a0 32) ∧
((¬ (gw_i w 26 (a0.toNatClampNeg)) = 119 → (vp_in a0 32) ∧
(∃ Q3 : Bool → bw_W → Prop, bw_rb E (d + 1) mX7_isOpen [.ref 31, .int (gw_i w 27 (a0.toNatClampNeg))] w Q3 ∧ ∀ v4 w5, Q3 v4 w5 →
((v4 = false → (((gw_i w 26 (a0.toNatClampNeg)) = 61 → (vp_in a0 32) ∧
(∃ Q7 : Bool → bw_W → Prop, bw_rb E (d + 1) mX10_agree [.ref 35, .int (gw_i w 26 (a0.toNatClampNeg)), .int (gw_i w 27 (a0.toNatClampNeg)), .int (gw_i w5 28 (a0.toNatClampNeg))] w5 Q7 ∧ ∀ v8 w9, Q7 v8 w9 →
Q v8 w9)) ∧ (¬ ((gw_i w 26 (a0.toNatClampNeg)) = 61) → ((¬ (gw_i w 26 (a0.toNatClampNeg)) = 33 → (((gw_i w 26 (a0.toNatClampNeg)) = 36 → Q true w5) ∧ (¬ ((gw_i w 26 (a0.toNatClampNeg)) = 36) → (∃ Q10 : Bool → bw_W → Prop, bw_rb E (d + 1) mX7_isStrict [.ref 31] w5 Q10 ∧ ∀ v11 w12, Q10 v11 w12 →
((v11 = false → Q true w12) ∧ (v11 = true → (∃ Q13 : Bool → bw_W → Prop, bw_rb E (d + 1) mX10_isAllTold [.ref 35, .int a0] w12 Q13 ∧ ∀ v14 w15, Q13 v14 w15 →
((v14 = false → Q false w15) ∧ (v14 = true → Q true w15))))))))) ∧ ((gw_i w 26 (a0.toNatClampNeg)) = 33 → (vp_in a0 32) ∧
(∃ Q17 : Bool → bw_W → Prop, bw_rb E (d + 1) mX10_agree [.ref 35, .int (gw_i w 26 (a0.toNatClampNeg)), .int (gw_i w 27 (a0.toNatClampNeg)), .int (gw_i w5 28 (a0.toNatClampNeg))] w5 Q17 ∧ ∀ v18 w19, Q17 v18 w19 →
Q v18 w19)))))) ∧ (v4 = true → (∃ Q20 : Bool → bw_W → Prop, bw_rb E (d + 1) mX10_refuse [.ref 35, .int (gw_i w 27 (a0.toNatClampNeg)), .int 0] w5 Q20 ∧ ∀ v21 w22, Q20 v21 w22 →
Q v21 w22))))) ∧ ((gw_i w 26 (a0.toNatClampNeg)) = 119 → Q true w))) : bw_rb E (d + 2) mX10_canTellItem [.ref 35, .int a0] w Q := by
  refine bw_enter rfl (Nat.le_of_ble_eq_true rfl) ?_
  refine bw_aload_n (i := 0) dX10_canTellItem_0 rfl rfl ?_
  refine bw_getr (r := 18) fg_BentWords_Teller_9 rfl rfl dX10_canTellItem_1 ?_
  refine bw_getr (r := 26) fg_BentWords_Teller_69 rfl rfl dX10_canTellItem_4 ?_
  refine bw_iload_n (i := 1) dX10_canTellItem_7 rfl rfl ?_
  obtain ⟨hi1, h⟩ := h
  refine bw_caload rfl hi1 dX10_canTellItem_8 ?_
  refine bw_istore_n (i := 2) (L' := [some (.ref 35), some (.int a0), some (.int (gw_i w 26 (a0.toNatClampNeg))), none]) dX10_canTellItem_9 rfl (Nat.le_of_ble_eq_true rfl) rfl ?_
  refine bw_iload_n (i := 2) dX10_canTellItem_10 rfl rfl ?_
  refine bw_bipush (v := 119) dX10_canTellItem_11 (by decide) ?_
  refine bw_icmp_ne (tgt := 18) dX10_canTellItem_13 (by decide) (fun c => ?_) (fun c => ?_)
  · replace h := h.1 (c)
    refine bw_aload_n (i := 0) dX10_canTellItem_18 rfl rfl ?_
    refine bw_getr (r := 18) fg_BentWords_Teller_9 rfl rfl dX10_canTellItem_19 ?_
    refine bw_getr (r := 27) fg_BentWords_Teller_72 rfl rfl dX10_canTellItem_22 ?_
    refine bw_iload_n (i := 1) dX10_canTellItem_25 rfl rfl ?_
    obtain ⟨hi2, h⟩ := h
    refine bw_iaload rfl hi2 dX10_canTellItem_26 ?_
    refine bw_istore_n (i := 3) (L' := [some (.ref 35), some (.int a0), some (.int (gw_i w 26 (a0.toNatClampNeg))), some (.int (gw_i w 27 (a0.toNatClampNeg)))]) dX10_canTellItem_27 rfl (Nat.le_of_ble_eq_true rfl) rfl ?_
    refine bw_aload_n (i := 0) dX10_canTellItem_28 rfl rfl ?_
    refine bw_getr (r := 31) fg_BentWords_Teller_15 rfl rfl dX10_canTellItem_29 ?_
    refine bw_iload_n (i := 3) dX10_canTellItem_32 rfl rfl ?_
    obtain ⟨Q3, hr, h⟩ := h
    refine bw_cVb (As := [.int (gw_i w 27 (a0.toNatClampNeg))]) (st := []) cv_BentWords_Teller_75 rfl rfl hr rfl rfl (Nat.le_of_ble_eq_true rfl) dX10_canTellItem_33 (fun v4 w5 hv => ?_)
    replace h := h v4 w5 hv
    clear hr
    refine bw_ifb_eq (tgt := 46) dX10_canTellItem_36 (by decide) (fun c => ?_) (fun c => ?_)
    · replace h := h.1 (c)
      refine bw_iload_n (i := 2) dX10_canTellItem_46 rfl rfl ?_
      refine bw_bipush (v := 61) dX10_canTellItem_47 (by decide) ?_
      refine bw_icmp_eq (tgt := 58) dX10_canTellItem_49 (by decide) (fun c => ?_) (fun c => ?_)
      · replace h := h.1 (c)
        refine bw_aload_n (i := 0) dX10_canTellItem_58 rfl rfl ?_
        refine bw_iload_n (i := 2) dX10_canTellItem_59 rfl rfl ?_
        refine bw_iload_n (i := 3) dX10_canTellItem_60 rfl rfl ?_
        refine bw_aload_n (i := 0) dX10_canTellItem_61 rfl rfl ?_
        refine bw_getr (r := 18) fg_BentWords_Teller_9 rfl rfl dX10_canTellItem_62 ?_
        refine bw_getr (r := 28) fg_BentWords_Teller_82 rfl rfl dX10_canTellItem_65 ?_
        refine bw_iload_n (i := 1) dX10_canTellItem_68 rfl rfl ?_
        obtain ⟨hi6, h⟩ := h
        refine bw_iaload rfl hi6 dX10_canTellItem_69 ?_
        obtain ⟨Q7, hr, h⟩ := h
        refine bw_cVb (As := [.int (gw_i w 26 (a0.toNatClampNeg)), .int (gw_i w 27 (a0.toNatClampNeg)), .int (gw_i w5 28 (a0.toNatClampNeg))]) (st := []) cv_BentWords_Teller_85 rfl rfl hr rfl rfl (Nat.le_of_ble_eq_true rfl) dX10_canTellItem_70 (fun v8 w9 hv => ?_)
        replace h := h v8 w9 hv
        clear hr
        exact bw_ireturn dX10_canTellItem_73 rfl (bw_nb _) ⟨_, rfl, h⟩
      · replace h := h.2 (c)
        refine bw_iload_n (i := 2) dX10_canTellItem_52 rfl rfl ?_
        refine bw_bipush (v := 33) dX10_canTellItem_53 (by decide) ?_
        refine bw_icmp_ne (tgt := 74) dX10_canTellItem_55 (by decide) (fun c => ?_) (fun c => ?_)
        · replace h := h.1 (c)
          refine bw_iload_n (i := 2) dX10_canTellItem_74 rfl rfl ?_
          refine bw_bipush (v := 36) dX10_canTellItem_75 (by decide) ?_
          refine bw_icmp_eq (tgt := 98) dX10_canTellItem_77 (by decide) (fun c => ?_) (fun c => ?_)
          · replace h := h.1 (c)
            refine bw_iconst (v := 1) dX10_canTellItem_98 (by decide) ?_
            refine bw_goto (tgt := 103) dX10_canTellItem_99 (by decide) ?_
            exact bw_ireturn dX10_canTellItem_103 rfl (bw_nb true) ⟨true, rfl, h⟩
          · replace h := h.2 (c)
            refine bw_aload_n (i := 0) dX10_canTellItem_80 rfl rfl ?_
            refine bw_getr (r := 31) fg_BentWords_Teller_15 rfl rfl dX10_canTellItem_81 ?_
            obtain ⟨Q10, hr, h⟩ := h
            refine bw_cVb (As := []) (st := []) cv_BentWords_Teller_89 rfl rfl hr rfl rfl (Nat.le_of_ble_eq_true rfl) dX10_canTellItem_84 (fun v11 w12 hv => ?_)
            replace h := h v11 w12 hv
            clear hr
            refine bw_ifb_eq (tgt := 98) dX10_canTellItem_87 (by decide) (fun c => ?_) (fun c => ?_)
            · replace h := h.1 (c)
              refine bw_iconst (v := 1) dX10_canTellItem_98 (by decide) ?_
              refine bw_goto (tgt := 103) dX10_canTellItem_99 (by decide) ?_
              exact bw_ireturn dX10_canTellItem_103 rfl (bw_nb true) ⟨true, rfl, h⟩
            · replace h := h.2 (c)
              refine bw_aload_n (i := 0) dX10_canTellItem_90 rfl rfl ?_
              refine bw_iload_n (i := 1) dX10_canTellItem_91 rfl rfl ?_
              obtain ⟨Q13, hr, h⟩ := h
              refine bw_cVb (As := [.int a0]) (st := []) cv_BentWords_Teller_93 rfl rfl hr rfl rfl (Nat.le_of_ble_eq_true rfl) dX10_canTellItem_92 (fun v14 w15 hv => ?_)
              replace h := h v14 w15 hv
              clear hr
              refine bw_ifb_eq (tgt := 102) dX10_canTellItem_95 (by decide) (fun c => ?_) (fun c => ?_)
              · replace h := h.1 (c)
                refine bw_iconst (v := 0) dX10_canTellItem_102 (by decide) ?_
                exact bw_ireturn dX10_canTellItem_103 rfl (bw_nb false) ⟨false, rfl, h⟩
              · replace h := h.2 (c)
                refine bw_iconst (v := 1) dX10_canTellItem_98 (by decide) ?_
                refine bw_goto (tgt := 103) dX10_canTellItem_99 (by decide) ?_
                exact bw_ireturn dX10_canTellItem_103 rfl (bw_nb true) ⟨true, rfl, h⟩
        · replace h := h.2 (c)
          refine bw_aload_n (i := 0) dX10_canTellItem_58 rfl rfl ?_
          refine bw_iload_n (i := 2) dX10_canTellItem_59 rfl rfl ?_
          refine bw_iload_n (i := 3) dX10_canTellItem_60 rfl rfl ?_
          refine bw_aload_n (i := 0) dX10_canTellItem_61 rfl rfl ?_
          refine bw_getr (r := 18) fg_BentWords_Teller_9 rfl rfl dX10_canTellItem_62 ?_
          refine bw_getr (r := 28) fg_BentWords_Teller_82 rfl rfl dX10_canTellItem_65 ?_
          refine bw_iload_n (i := 1) dX10_canTellItem_68 rfl rfl ?_
          obtain ⟨hi16, h⟩ := h
          refine bw_iaload rfl hi16 dX10_canTellItem_69 ?_
          obtain ⟨Q17, hr, h⟩ := h
          refine bw_cVb (As := [.int (gw_i w 26 (a0.toNatClampNeg)), .int (gw_i w 27 (a0.toNatClampNeg)), .int (gw_i w5 28 (a0.toNatClampNeg))]) (st := []) cv_BentWords_Teller_85 rfl rfl hr rfl rfl (Nat.le_of_ble_eq_true rfl) dX10_canTellItem_70 (fun v18 w19 hv => ?_)
          replace h := h v18 w19 hv
          clear hr
          exact bw_ireturn dX10_canTellItem_73 rfl (bw_nb _) ⟨_, rfl, h⟩
    · replace h := h.2 (c)
      refine bw_aload_n (i := 0) dX10_canTellItem_39 rfl rfl ?_
      refine bw_iload_n (i := 3) dX10_canTellItem_40 rfl rfl ?_
      refine bw_iconst (v := 0) dX10_canTellItem_41 (by decide) ?_
      obtain ⟨Q20, hr, h⟩ := h
      refine bw_cVb (As := [.int (gw_i w 27 (a0.toNatClampNeg)), .int 0]) (st := []) cv_BentWords_Teller_78 rfl rfl hr rfl rfl (Nat.le_of_ble_eq_true rfl) dX10_canTellItem_42 (fun v21 w22 hv => ?_)
      replace h := h v21 w22 hv
      clear hr
      exact bw_ireturn dX10_canTellItem_45 rfl (bw_nb _) ⟨_, rfl, h⟩
  · replace h := h.2 (c)
    refine bw_iconst (v := 1) dX10_canTellItem_16 (by decide) ?_
    exact bw_ireturn dX10_canTellItem_17 rfl (bw_nb true) ⟨true, rfl, h⟩
theorem wfX10_boundWordIn {E : bw_E} {d : Nat} {w : bw_W} {Q : Int64 → bw_W → Prop} {a0 : Int32}  (h : (vp_in a0 32) ∧
(∃ Q2 : Int32 → bw_W → Prop, bw_ri E (d + 1) mX7_nounIn [.ref 31, .int (gw_i w 27 (a0.toNatClampNeg))] w Q2 ∧ ∀ v3 w4, Q2 v3 w4 →
(vp_in v3 6) ∧
(vp_in a0 32) ∧
((¬ (gw_i w4 26 (a0.toNatClampNeg)) = 37 → (vp_in a0 32) ∧
(∃ Q8 : Int32 → bw_W → Prop, bw_ri E (d + 1) mX7_numberIn [.ref 31, .int (gw_i w 27 (a0.toNatClampNeg))] w4 Q8 ∧ ∀ v9 w10, Q8 v9 w10 →
(∃ Q11 : Int64 → bw_W → Prop, bw_rl E (d + 1) mX3_boundWord [.ref 22, .int (gw_i w4 28 (a0.toNatClampNeg)), .int v9, .int (gw_i w4 20 (v3.toNatClampNeg))] w10 Q11 ∧ ∀ v12 w13, Q11 v12 w13 →
Q v12 w13))) ∧ ((gw_i w4 26 (a0.toNatClampNeg)) = 37 → (vp_in a0 32) ∧
(∃ Q15 : Int32 → bw_W → Prop, bw_ri E (d + 1) mX7_numberIn [.ref 31, .int (gw_i w 27 (a0.toNatClampNeg))] w4 Q15 ∧ ∀ v16 w17, Q15 v16 w17 →
(∃ Q18 : Int64 → bw_W → Prop, bw_rl E (d + 1) mX3_boundWord [.ref 23, .int (gw_i w4 28 (a0.toNatClampNeg)), .int v16, .int (gw_i w4 20 (v3.toNatClampNeg))] w17 Q18 ∧ ∀ v19 w20, Q18 v19 w20 →
Q v19 w20)))))) : bw_rl E (d + 2) mX10_boundWordIn [.ref 35, .int a0] w Q := by
  refine bw_enter rfl (Nat.le_of_ble_eq_true rfl) ?_
  refine bw_aload_n (i := 0) dX10_boundWordIn_0 rfl rfl ?_
  refine bw_getr (r := 18) fg_BentWords_Teller_9 rfl rfl dX10_boundWordIn_1 ?_
  refine bw_getr (r := 27) fg_BentWords_Teller_72 rfl rfl dX10_boundWordIn_4 ?_
  refine bw_iload_n (i := 1) dX10_boundWordIn_7 rfl rfl ?_
  obtain ⟨hi1, h⟩ := h
  refine bw_iaload rfl hi1 dX10_boundWordIn_8 ?_
  refine bw_istore_n (i := 2) (L' := [some (.ref 35), some (.int a0), some (.int (gw_i w 27 (a0.toNatClampNeg))), none, none]) dX10_boundWordIn_9 rfl (Nat.le_of_ble_eq_true rfl) rfl ?_
  refine bw_aload_n (i := 0) dX10_boundWordIn_10 rfl rfl ?_
  refine bw_getr (r := 18) fg_BentWords_Teller_9 rfl rfl dX10_boundWordIn_11 ?_
  refine bw_getr (r := 20) fg_BentWords_Teller_100 rfl rfl dX10_boundWordIn_14 ?_
  refine bw_aload_n (i := 0) dX10_boundWordIn_17 rfl rfl ?_
  refine bw_getr (r := 31) fg_BentWords_Teller_15 rfl rfl dX10_boundWordIn_18 ?_
  refine bw_iload_n (i := 2) dX10_boundWordIn_21 rfl rfl ?_
  obtain ⟨Q2, hr, h⟩ := h
  refine bw_cVi (As := [.int (gw_i w 27 (a0.toNatClampNeg))]) (st := [.ref 20]) cv_BentWords_Teller_103 rfl rfl hr rfl rfl (Nat.le_of_ble_eq_true rfl) dX10_boundWordIn_22 (fun v3 w4 hv => ?_)
  replace h := h v3 w4 hv
  clear hr
  obtain ⟨hi5, h⟩ := h
  refine bw_iaload rfl hi5 dX10_boundWordIn_25 ?_
  refine bw_istore_n (i := 3) (L' := [some (.ref 35), some (.int a0), some (.int (gw_i w 27 (a0.toNatClampNeg))), some (.int (gw_i w4 20 (v3.toNatClampNeg))), none]) dX10_boundWordIn_26 rfl (Nat.le_of_ble_eq_true rfl) rfl ?_
  refine bw_aload_n (i := 0) dX10_boundWordIn_27 rfl rfl ?_
  refine bw_getr (r := 18) fg_BentWords_Teller_9 rfl rfl dX10_boundWordIn_28 ?_
  refine bw_getr (r := 26) fg_BentWords_Teller_69 rfl rfl dX10_boundWordIn_31 ?_
  refine bw_iload_n (i := 1) dX10_boundWordIn_34 rfl rfl ?_
  obtain ⟨hi6, h⟩ := h
  refine bw_caload rfl hi6 dX10_boundWordIn_35 ?_
  refine bw_bipush (v := 37) dX10_boundWordIn_36 (by decide) ?_
  refine bw_icmp_ne (tgt := 51) dX10_boundWordIn_38 (by decide) (fun c => ?_) (fun c => ?_)
  · replace h := h.1 (c)
    refine bw_aload_n (i := 0) dX10_boundWordIn_51 rfl rfl ?_
    refine bw_getr (r := 18) fg_BentWords_Teller_9 rfl rfl dX10_boundWordIn_52 ?_
    refine bw_getr (r := 22) fg_BentWords_Teller_109 rfl rfl dX10_boundWordIn_55 ?_
    refine bw_astore (i := 4) (L' := [some (.ref 35), some (.int a0), some (.int (gw_i w 27 (a0.toNatClampNeg))), some (.int (gw_i w4 20 (v3.toNatClampNeg))), some (.ref 22)]) dX10_boundWordIn_58 (Nat.le_of_ble_eq_true rfl) rfl ?_
    refine bw_aload dX10_boundWordIn_60 rfl ?_
    refine bw_aload_n (i := 0) dX10_boundWordIn_62 rfl rfl ?_
    refine bw_getr (r := 18) fg_BentWords_Teller_9 rfl rfl dX10_boundWordIn_63 ?_
    refine bw_getr (r := 28) fg_BentWords_Teller_82 rfl rfl dX10_boundWordIn_66 ?_
    refine bw_iload_n (i := 1) dX10_boundWordIn_69 rfl rfl ?_
    obtain ⟨hi7, h⟩ := h
    refine bw_iaload rfl hi7 dX10_boundWordIn_70 ?_
    refine bw_aload_n (i := 0) dX10_boundWordIn_71 rfl rfl ?_
    refine bw_getr (r := 31) fg_BentWords_Teller_15 rfl rfl dX10_boundWordIn_72 ?_
    refine bw_iload_n (i := 2) dX10_boundWordIn_75 rfl rfl ?_
    obtain ⟨Q8, hr, h⟩ := h
    refine bw_cVi (As := [.int (gw_i w 27 (a0.toNatClampNeg))]) (st := [.int (gw_i w4 28 (a0.toNatClampNeg)), .ref 22]) cv_BentWords_Teller_96 rfl rfl hr rfl rfl (Nat.le_of_ble_eq_true rfl) dX10_boundWordIn_76 (fun v9 w10 hv => ?_)
    replace h := h v9 w10 hv
    clear hr
    refine bw_iload_n (i := 3) dX10_boundWordIn_79 rfl rfl ?_
    obtain ⟨Q11, hr, h⟩ := h
    refine bw_cSl (As := [.ref 22, .int (gw_i w4 28 (a0.toNatClampNeg)), .int v9, .int (gw_i w4 20 (v3.toNatClampNeg))]) (st := []) cs_BentWords_Teller_115 hr rfl rfl (Nat.le_of_ble_eq_true rfl) dX10_boundWordIn_80 (fun v12 w13 hv => ?_)
    replace h := h v12 w13 hv
    clear hr
    exact bw_lreturn dX10_boundWordIn_83 rfl ⟨_, rfl, h⟩
  · replace h := h.2 (c)
    refine bw_aload_n (i := 0) dX10_boundWordIn_41 rfl rfl ?_
    refine bw_getr (r := 18) fg_BentWords_Teller_9 rfl rfl dX10_boundWordIn_42 ?_
    refine bw_getr (r := 23) fg_BentWords_Teller_106 rfl rfl dX10_boundWordIn_45 ?_
    refine bw_goto (tgt := 58) dX10_boundWordIn_48 (by decide) ?_
    refine bw_astore (i := 4) (L' := [some (.ref 35), some (.int a0), some (.int (gw_i w 27 (a0.toNatClampNeg))), some (.int (gw_i w4 20 (v3.toNatClampNeg))), some (.ref 23)]) dX10_boundWordIn_58 (Nat.le_of_ble_eq_true rfl) rfl ?_
    refine bw_aload dX10_boundWordIn_60 rfl ?_
    refine bw_aload_n (i := 0) dX10_boundWordIn_62 rfl rfl ?_
    refine bw_getr (r := 18) fg_BentWords_Teller_9 rfl rfl dX10_boundWordIn_63 ?_
    refine bw_getr (r := 28) fg_BentWords_Teller_82 rfl rfl dX10_boundWordIn_66 ?_
    refine bw_iload_n (i := 1) dX10_boundWordIn_69 rfl rfl ?_
    obtain ⟨hi14, h⟩ := h
    refine bw_iaload rfl hi14 dX10_boundWordIn_70 ?_
    refine bw_aload_n (i := 0) dX10_boundWordIn_71 rfl rfl ?_
    refine bw_getr (r := 31) fg_BentWords_Teller_15 rfl rfl dX10_boundWordIn_72 ?_
    refine bw_iload_n (i := 2) dX10_boundWordIn_75 rfl rfl ?_
    obtain ⟨Q15, hr, h⟩ := h
    refine bw_cVi (As := [.int (gw_i w 27 (a0.toNatClampNeg))]) (st := [.int (gw_i w4 28 (a0.toNatClampNeg)), .ref 23]) cv_BentWords_Teller_96 rfl rfl hr rfl rfl (Nat.le_of_ble_eq_true rfl) dX10_boundWordIn_76 (fun v16 w17 hv => ?_)
    replace h := h v16 w17 hv
    clear hr
    refine bw_iload_n (i := 3) dX10_boundWordIn_79 rfl rfl ?_
    obtain ⟨Q18, hr, h⟩ := h
    refine bw_cSl (As := [.ref 23, .int (gw_i w4 28 (a0.toNatClampNeg)), .int v16, .int (gw_i w4 20 (v3.toNatClampNeg))]) (st := []) cs_BentWords_Teller_115 hr rfl rfl (Nat.le_of_ble_eq_true rfl) dX10_boundWordIn_80 (fun v19 w20 hv => ?_)
    replace h := h v19 w20 hv
    clear hr
    exact bw_lreturn dX10_boundWordIn_83 rfl ⟨_, rfl, h⟩
theorem wfX10_formIn {E : bw_E} {d : Nat} {w : bw_W} {Q : Int64 → bw_W → Prop} {a0 : Int32}  (h : (vp_in a0 32) ∧
(∃ Q2 : Int32 → bw_W → Prop, bw_ri E (d + 1) mX7_nounIn [.ref 31, .int (gw_i w 27 (a0.toNatClampNeg))] w Q2 ∧ ∀ v3 w4, Q2 v3 w4 →
(vp_in a0 32) ∧
(∃ Q6 : Int32 → bw_W → Prop, bw_ri E (d + 1) mX7_numberIn [.ref 31, .int (gw_i w 27 (a0.toNatClampNeg))] w4 Q6 ∧ ∀ v7 w8, Q6 v7 w8 →
(∃ Q9 : Int64 → bw_W → Prop, bw_rl E (d + 1) mX10_formOf [.ref 35, .int v3, .int (gw_i w4 28 (a0.toNatClampNeg)), .int v7] w8 Q9 ∧ ∀ v10 w11, Q9 v10 w11 →
Q v10 w11)))) : bw_rl E (d + 2) mX10_formIn [.ref 35, .int a0] w Q := by
  refine bw_enter rfl (Nat.le_of_ble_eq_true rfl) ?_
  refine bw_aload_n (i := 0) dX10_formIn_0 rfl rfl ?_
  refine bw_getr (r := 18) fg_BentWords_Teller_9 rfl rfl dX10_formIn_1 ?_
  refine bw_getr (r := 27) fg_BentWords_Teller_72 rfl rfl dX10_formIn_4 ?_
  refine bw_iload_n (i := 1) dX10_formIn_7 rfl rfl ?_
  obtain ⟨hi1, h⟩ := h
  refine bw_iaload rfl hi1 dX10_formIn_8 ?_
  refine bw_istore_n (i := 2) (L' := [some (.ref 35), some (.int a0), some (.int (gw_i w 27 (a0.toNatClampNeg)))]) dX10_formIn_9 rfl (Nat.le_of_ble_eq_true rfl) rfl ?_
  refine bw_aload_n (i := 0) dX10_formIn_10 rfl rfl ?_
  refine bw_aload_n (i := 0) dX10_formIn_11 rfl rfl ?_
  refine bw_getr (r := 31) fg_BentWords_Teller_15 rfl rfl dX10_formIn_12 ?_
  refine bw_iload_n (i := 2) dX10_formIn_15 rfl rfl ?_
  obtain ⟨Q2, hr, h⟩ := h
  refine bw_cVi (As := [.int (gw_i w 27 (a0.toNatClampNeg))]) (st := [.ref 35]) cv_BentWords_Teller_103 rfl rfl hr rfl rfl (Nat.le_of_ble_eq_true rfl) dX10_formIn_16 (fun v3 w4 hv => ?_)
  replace h := h v3 w4 hv
  clear hr
  refine bw_aload_n (i := 0) dX10_formIn_19 rfl rfl ?_
  refine bw_getr (r := 18) fg_BentWords_Teller_9 rfl rfl dX10_formIn_20 ?_
  refine bw_getr (r := 28) fg_BentWords_Teller_82 rfl rfl dX10_formIn_23 ?_
  refine bw_iload_n (i := 1) dX10_formIn_26 rfl rfl ?_
  obtain ⟨hi5, h⟩ := h
  refine bw_iaload rfl hi5 dX10_formIn_27 ?_
  refine bw_aload_n (i := 0) dX10_formIn_28 rfl rfl ?_
  refine bw_getr (r := 31) fg_BentWords_Teller_15 rfl rfl dX10_formIn_29 ?_
  refine bw_iload_n (i := 2) dX10_formIn_32 rfl rfl ?_
  obtain ⟨Q6, hr, h⟩ := h
  refine bw_cVi (As := [.int (gw_i w 27 (a0.toNatClampNeg))]) (st := [.int (gw_i w4 28 (a0.toNatClampNeg)), .int v3, .ref 35]) cv_BentWords_Teller_96 rfl rfl hr rfl rfl (Nat.le_of_ble_eq_true rfl) dX10_formIn_33 (fun v7 w8 hv => ?_)
  replace h := h v7 w8 hv
  clear hr
  obtain ⟨Q9, hr, h⟩ := h
  refine bw_cVl (As := [.int v3, .int (gw_i w4 28 (a0.toNatClampNeg)), .int v7]) (st := []) cv_BentWords_Teller_41 rfl rfl hr rfl rfl (Nat.le_of_ble_eq_true rfl) dX10_formIn_36 (fun v10 w11 hv => ?_)
  replace h := h v10 w11 hv
  clear hr
  exact bw_lreturn dX10_formIn_39 rfl ⟨_, rfl, h⟩
theorem wfX10_putWord_19 {E : bw_E} {d : Nat} {w : bw_W} {Q : bw_W → Prop} {l1 : Int64} {l3 : Int32} {l4 : Int32}  (h : ((l3 ≤ l4 → Q w) ∧ (¬ (l3 ≤ l4) → (∃ Q1 : Int32 → bw_W → Prop, bw_ri E (d + 1) mX11_letterOf [.long l1, .int l4] w Q1 ∧ ∀ v2 w3, Q1 v2 w3 →
(∃ Q4 : bw_W → Prop, bw_rv E (d + 1) mX10_putByte [.ref 35, .int v2] w3 Q4 ∧ ∀ w6, Q4 w6 →
bw_G E (d + 2) mX10_putWord 19 [some (.ref 35), some (.long l1), none, some (.int l3), some (.int (l4 + 1))] [] w6 (bw_qv Q)))))) : bw_G E (d + 2) mX10_putWord 19 [some (.ref 35), some (.long l1), none, some (.int l3), some (.int l4)] [] w (bw_qv Q) := by
  refine bw_iload dX10_putWord_19 rfl ?_
  refine bw_iload_n (i := 3) dX10_putWord_21 rfl rfl ?_
  refine bw_icmp_ge (tgt := 41) dX10_putWord_22 (by decide) (fun c => ?_) (fun c => ?_)
  · replace h := h.1 (c)
    exact bw_return dX10_putWord_41 rfl ⟨rfl, h⟩
  · replace h := h.2 (c)
    refine bw_aload_n (i := 0) dX10_putWord_25 rfl rfl ?_
    refine bw_lload_n (i := 1) dX10_putWord_26 rfl rfl ?_
    refine bw_iload dX10_putWord_27 rfl ?_
    obtain ⟨Q1, hr, h⟩ := h
    refine bw_cNi (As := [.long l1, .int l4]) (st := [.ref 35]) cn_BentWords_Teller_167 hr rfl rfl (Nat.le_of_ble_eq_true rfl) dX10_putWord_29 (fun v2 w3 hv => ?_)
    replace h := h v2 w3 hv
    clear hr
    obtain ⟨Q4, hr, h⟩ := h
    refine bw_cVv (As := [.int v2]) (st := []) cv_BentWords_Teller_157 rfl rfl hr rfl rfl (Nat.le_of_ble_eq_true rfl) dX10_putWord_32 (fun w6 hv => ?_)
    replace h := h w6 hv
    clear hr
    refine bw_iinc (i := 4) (x := l4) (v := (l4 + 1)) (L' := [some (.ref 35), some (.long l1), none, some (.int l3), some (.int (l4 + 1))]) dX10_putWord_35 rfl rfl (Nat.le_of_ble_eq_true rfl) rfl ?_
    refine bw_goto (tgt := 19) dX10_putWord_38 (by decide) ?_
    exact h
theorem wfX10_putWord {E : bw_E} {d : Nat} {w : bw_W} {Q : bw_W → Prop} {a0 : Int64}  (h : ((¬ a0 = 0 → (∃ Q1 : bw_W → Prop, bw_rv E (d + 1) mX10_putBlankBetween [.ref 35] w Q1 ∧ ∀ w3, Q1 w3 →
(∃ Q4 : Int32 → bw_W → Prop, bw_ri E (d + 1) mX11_lettersOf [.long a0] w3 Q4 ∧ ∀ v5 w6, Q4 v5 w6 →
bw_G E (d + 2) mX10_putWord 19 [some (.ref 35), some (.long a0), none, some (.int v5), some (.int 0)] [] w6 (bw_qv Q)))) ∧ (a0 = 0 → Q w))) : bw_rv E (d + 2) mX10_putWord [.ref 35, .long a0] w Q := by
  refine bw_enter rfl (Nat.le_of_ble_eq_true rfl) ?_
  refine bw_lload_n (i := 1) dX10_putWord_0 rfl rfl ?_
  refine bw_lconst (v := 0) dX10_putWord_1 rfl ?_
  refine bw_lcmp_ne (tgt := 7) dX10_putWord_2 dX10_putWord_3 (by decide) (fun c => ?_) (fun c => ?_)
  · replace h := h.1 (c)
    refine bw_aload_n (i := 0) dX10_putWord_7 rfl rfl ?_
    obtain ⟨Q1, hr, h⟩ := h
    refine bw_cVv (As := []) (st := []) cv_BentWords_Teller_160 rfl rfl hr rfl rfl (Nat.le_of_ble_eq_true rfl) dX10_putWord_8 (fun w3 hv => ?_)
    replace h := h w3 hv
    clear hr
    refine bw_lload_n (i := 1) dX10_putWord_11 rfl rfl ?_
    obtain ⟨Q4, hr, h⟩ := h
    refine bw_cNi (As := [.long a0]) (st := []) cn_BentWords_Teller_163 hr rfl rfl (Nat.le_of_ble_eq_true rfl) dX10_putWord_12 (fun v5 w6 hv => ?_)
    replace h := h v5 w6 hv
    clear hr
    refine bw_istore_n (i := 3) (L' := [some (.ref 35), some (.long a0), none, some (.int v5), none]) dX10_putWord_15 rfl (Nat.le_of_ble_eq_true rfl) rfl ?_
    refine bw_iconst (v := 0) dX10_putWord_16 (by decide) ?_
    refine bw_istore (i := 4) (L' := [some (.ref 35), some (.long a0), none, some (.int v5), some (.int 0)]) dX10_putWord_17 (Nat.le_of_ble_eq_true rfl) rfl ?_
    exact h
  · replace h := h.2 (c)
    exact bw_return dX10_putWord_6 rfl ⟨rfl, h⟩
theorem wfX10_putNumber {E : bw_E} {d : Nat} {w : bw_W} {Q : bw_W → Prop} {a0 : Int32}  (h : (∃ Q1 : bw_W → Prop, bw_rv E (d + 1) mX10_putBlankBetween [.ref 35] w Q1 ∧ ∀ w3, Q1 w3 →
((a0 < 10 → (∃ Q4 : bw_W → Prop, bw_rv E (d + 1) mX10_putByte [.ref 35, .int (48 + (a0 - a0 / 10 * 10))] w3 Q4 ∧ ∀ w6, Q4 w6 →
Q w6)) ∧ (¬ (a0 < 10) → (∃ Q7 : bw_W → Prop, bw_rv E (d + 1) mX10_putByte [.ref 35, .int (48 + (a0 / 10))] w3 Q7 ∧ ∀ w9, Q7 w9 →
(∃ Q10 : bw_W → Prop, bw_rv E (d + 1) mX10_putByte [.ref 35, .int (48 + (a0 - a0 / 10 * 10))] w9 Q10 ∧ ∀ w12, Q10 w12 →
Q w12)))))) : bw_rv E (d + 2) mX10_putNumber [.ref 35, .int a0] w Q := by
  refine bw_enter rfl (Nat.le_of_ble_eq_true rfl) ?_
  refine bw_aload_n (i := 0) dX10_putNumber_0 rfl rfl ?_
  obtain ⟨Q1, hr, h⟩ := h
  refine bw_cVv (As := []) (st := []) cv_BentWords_Teller_160 rfl rfl hr rfl rfl (Nat.le_of_ble_eq_true rfl) dX10_putNumber_1 (fun w3 hv => ?_)
  replace h := h w3 hv
  clear hr
  refine bw_iload_n (i := 1) dX10_putNumber_4 rfl rfl ?_
  refine bw_bipush (v := 10) dX10_putNumber_5 (by decide) ?_
  refine bw_icmp_lt (tgt := 21) dX10_putNumber_7 (by decide) (fun c => ?_) (fun c => ?_)
  · replace h := h.1 (c)
    refine bw_aload_n (i := 0) dX10_putNumber_21 rfl rfl ?_
    refine bw_bipush (v := 48) dX10_putNumber_22 (by decide) ?_
    refine bw_iload_n (i := 1) dX10_putNumber_24 rfl rfl ?_
    refine bw_bipush (v := 10) dX10_putNumber_25 (by decide) ?_
    refine bw_irem dX10_putNumber_27 (by decide) ?_
    refine bw_iadd dX10_putNumber_28 ?_
    obtain ⟨Q4, hr, h⟩ := h
    refine bw_cVv (As := [.int (48 + (a0 - a0 / 10 * 10))]) (st := []) cv_BentWords_Teller_157 rfl rfl hr rfl rfl (Nat.le_of_ble_eq_true rfl) dX10_putNumber_29 (fun w6 hv => ?_)
    replace h := h w6 hv
    clear hr
    exact bw_return dX10_putNumber_32 rfl ⟨rfl, h⟩
  · replace h := h.2 (c)
    refine bw_aload_n (i := 0) dX10_putNumber_10 rfl rfl ?_
    refine bw_bipush (v := 48) dX10_putNumber_11 (by decide) ?_
    refine bw_iload_n (i := 1) dX10_putNumber_13 rfl rfl ?_
    refine bw_bipush (v := 10) dX10_putNumber_14 (by decide) ?_
    refine bw_idiv dX10_putNumber_16 (by decide) ?_
    refine bw_iadd dX10_putNumber_17 ?_
    obtain ⟨Q7, hr, h⟩ := h
    refine bw_cVv (As := [.int (48 + (a0 / 10))]) (st := []) cv_BentWords_Teller_157 rfl rfl hr rfl rfl (Nat.le_of_ble_eq_true rfl) dX10_putNumber_18 (fun w9 hv => ?_)
    replace h := h w9 hv
    clear hr
    refine bw_aload_n (i := 0) dX10_putNumber_21 rfl rfl ?_
    refine bw_bipush (v := 48) dX10_putNumber_22 (by decide) ?_
    refine bw_iload_n (i := 1) dX10_putNumber_24 rfl rfl ?_
    refine bw_bipush (v := 10) dX10_putNumber_25 (by decide) ?_
    refine bw_irem dX10_putNumber_27 (by decide) ?_
    refine bw_iadd dX10_putNumber_28 ?_
    obtain ⟨Q10, hr, h⟩ := h
    refine bw_cVv (As := [.int (48 + (a0 - a0 / 10 * 10))]) (st := []) cv_BentWords_Teller_157 rfl rfl hr rfl rfl (Nat.le_of_ble_eq_true rfl) dX10_putNumber_29 (fun w12 hv => ?_)
    replace h := h w12 hv
    clear hr
    exact bw_return dX10_putNumber_32 rfl ⟨rfl, h⟩
theorem wfX10_isMissing {E : bw_E} {d : Nat} {w : bw_W} {Q : Bool → bw_W → Prop} {a0 : Int32}  (h : (∃ Q1 : Bool → bw_W → Prop, bw_rb E (d + 1) mX3_asksForm [.ref 18, .int a0] w Q1 ∧ ∀ v2 w3, Q1 v2 w3 →
((v2 = false → Q false w3) ∧ (v2 = true → (vp_in a0 32) ∧
(∃ Q5 : Bool → bw_W → Prop, bw_rb E (d + 1) mX7_isOpen [.ref 31, .int (gw_i w3 27 (a0.toNatClampNeg))] w3 Q5 ∧ ∀ v6 w7, Q5 v6 w7 →
((v6 = true → Q false w7) ∧ (v6 = false → (∃ Q8 : Int32 → bw_W → Prop, bw_ri E (d + 1) mX10_defaultIn [.ref 35, .int a0] w7 Q8 ∧ ∀ v9 w10, Q8 v9 w10 →
((v9 = 0 → Q false w10) ∧ (¬ (v9 = 0) → Q true w10)))))))))) : bw_rb E (d + 2) mX10_isMissing [.ref 35, .int a0] w Q := by
  refine bw_enter rfl (Nat.le_of_ble_eq_true rfl) ?_
  refine bw_aload_n (i := 0) dX10_isMissing_0 rfl rfl ?_
  refine bw_getr (r := 18) fg_BentWords_Teller_9 rfl rfl dX10_isMissing_1 ?_
  refine bw_iload_n (i := 1) dX10_isMissing_4 rfl rfl ?_
  obtain ⟨Q1, hr, h⟩ := h
  refine bw_cVb (As := [.int a0]) (st := []) cv_BentWords_Teller_171 rfl rfl hr rfl rfl (Nat.le_of_ble_eq_true rfl) dX10_isMissing_5 (fun v2 w3 hv => ?_)
  replace h := h v2 w3 hv
  clear hr
  refine bw_ifb_eq (tgt := 42) dX10_isMissing_8 (by decide) (fun c => ?_) (fun c => ?_)
  · replace h := h.1 (c)
    refine bw_iconst (v := 0) dX10_isMissing_42 (by decide) ?_
    exact bw_ireturn dX10_isMissing_43 rfl (bw_nb false) ⟨false, rfl, h⟩
  · replace h := h.2 (c)
    refine bw_aload_n (i := 0) dX10_isMissing_11 rfl rfl ?_
    refine bw_getr (r := 31) fg_BentWords_Teller_15 rfl rfl dX10_isMissing_12 ?_
    refine bw_aload_n (i := 0) dX10_isMissing_15 rfl rfl ?_
    refine bw_getr (r := 18) fg_BentWords_Teller_9 rfl rfl dX10_isMissing_16 ?_
    refine bw_getr (r := 27) fg_BentWords_Teller_72 rfl rfl dX10_isMissing_19 ?_
    refine bw_iload_n (i := 1) dX10_isMissing_22 rfl rfl ?_
    obtain ⟨hi4, h⟩ := h
    refine bw_iaload rfl hi4 dX10_isMissing_23 ?_
    obtain ⟨Q5, hr, h⟩ := h
    refine bw_cVb (As := [.int (gw_i w3 27 (a0.toNatClampNeg))]) (st := []) cv_BentWords_Teller_75 rfl rfl hr rfl rfl (Nat.le_of_ble_eq_true rfl) dX10_isMissing_24 (fun v6 w7 hv => ?_)
    replace h := h v6 w7 hv
    clear hr
    refine bw_ifb_ne (tgt := 42) dX10_isMissing_27 (by decide) (fun c => ?_) (fun c => ?_)
    · replace h := h.1 (c)
      refine bw_iconst (v := 0) dX10_isMissing_42 (by decide) ?_
      exact bw_ireturn dX10_isMissing_43 rfl (bw_nb false) ⟨false, rfl, h⟩
    · replace h := h.2 (c)
      refine bw_aload_n (i := 0) dX10_isMissing_30 rfl rfl ?_
      refine bw_iload_n (i := 1) dX10_isMissing_31 rfl rfl ?_
      obtain ⟨Q8, hr, h⟩ := h
      refine bw_cVi (As := [.int a0]) (st := []) cv_BentWords_Teller_174 rfl rfl hr rfl rfl (Nat.le_of_ble_eq_true rfl) dX10_isMissing_32 (fun v9 w10 hv => ?_)
      replace h := h v9 w10 hv
      clear hr
      refine bw_if_eq (tgt := 42) dX10_isMissing_35 (by decide) (fun c => ?_) (fun c => ?_)
      · replace h := h.1 (c)
        refine bw_iconst (v := 0) dX10_isMissing_42 (by decide) ?_
        exact bw_ireturn dX10_isMissing_43 rfl (bw_nb false) ⟨false, rfl, h⟩
      · replace h := h.2 (c)
        refine bw_iconst (v := 1) dX10_isMissing_38 (by decide) ?_
        refine bw_goto (tgt := 43) dX10_isMissing_39 (by decide) ?_
        exact bw_ireturn dX10_isMissing_43 rfl (bw_nb true) ⟨true, rfl, h⟩
theorem wfX11_adoptLexicon {E : bw_E} {d : Nat} {w : bw_W} {Q : Int32 → bw_W → Prop}   (h : (∃ Q1 : bw_W → Prop, bw_rv E (d + 1) mX3_copyFrom [.ref 18, .ref 5] w Q1 ∧ ∀ w3, Q1 w3 →
(∃ Q4 : bw_W → Prop, bw_rv E (d + 1) mX7_beginWith [.ref 31, .ref 18] (sw_i w3 0 5 1) Q4 ∧ ∀ w6, Q4 w6 →
(∃ Q7 : bw_W → Prop, bw_rv E (d + 1) mX2_clear [.ref 37] w6 Q7 ∧ ∀ w9, Q7 w9 →
Q (gw_i w9 18 0) (sw_i (sw_i w9 0 14 0) 1 1 0))))) : bw_ri E (d + 2) mX11_adoptLexicon [.ref 0] w Q := by
  refine bw_enter rfl (Nat.le_of_ble_eq_true rfl) ?_
  refine bw_aload_n (i := 0) dX11_adoptLexicon_0 rfl rfl ?_
  refine bw_getr (r := 18) fg_BentWords_44 rfl rfl dX11_adoptLexicon_1 ?_
  refine bw_aload_n (i := 0) dX11_adoptLexicon_4 rfl rfl ?_
  refine bw_getr (r := 4) fg_BentWords_30 rfl rfl dX11_adoptLexicon_5 ?_
  refine bw_getr (r := 5) fg_BentWords_133 rfl rfl dX11_adoptLexicon_8 ?_
  obtain ⟨Q1, hr, h⟩ := h
  refine bw_cVv (As := [.ref 5]) (st := []) cv_BentWords_136 rfl rfl hr rfl rfl (Nat.le_of_ble_eq_true rfl) dX11_adoptLexicon_11 (fun w3 hv => ?_)
  replace h := h w3 hv
  clear hr
  refine bw_aload_n (i := 0) dX11_adoptLexicon_14 rfl rfl ?_
  refine bw_iconst (v := 1) dX11_adoptLexicon_15 (by decide) ?_
  refine bw_puti fp_BentWords_140 rfl (by decide) (by decide) dX11_adoptLexicon_16 ?_
  refine bw_aload_n (i := 0) dX11_adoptLexicon_19 rfl rfl ?_
  refine bw_getr (r := 31) fg_BentWords_58 rfl rfl dX11_adoptLexicon_20 ?_
  refine bw_aload_n (i := 0) dX11_adoptLexicon_23 rfl rfl ?_
  refine bw_getr (r := 18) fg_BentWords_44 rfl rfl dX11_adoptLexicon_24 ?_
  obtain ⟨Q4, hr, h⟩ := h
  refine bw_cVv (As := [.ref 18]) (st := []) cv_BentWords_144 rfl rfl hr rfl rfl (Nat.le_of_ble_eq_true rfl) dX11_adoptLexicon_27 (fun w6 hv => ?_)
  replace h := h w6 hv
  clear hr
  refine bw_aload_n (i := 0) dX11_adoptLexicon_30 rfl rfl ?_
  refine bw_getr (r := 37) fg_BentWords_77 rfl rfl dX11_adoptLexicon_31 ?_
  obtain ⟨Q7, hr, h⟩ := h
  refine bw_cVv (As := []) (st := []) cv_BentWords_147 rfl rfl hr rfl rfl (Nat.le_of_ble_eq_true rfl) dX11_adoptLexicon_34 (fun w9 hv => ?_)
  replace h := h w9 hv
  clear hr
  refine bw_aload_n (i := 0) dX11_adoptLexicon_37 rfl rfl ?_
  refine bw_iconst (v := 0) dX11_adoptLexicon_38 (by decide) ?_
  refine bw_puti fp_BentWords_150 rfl (by decide) (by decide) dX11_adoptLexicon_39 ?_
  refine bw_aload_n (i := 0) dX11_adoptLexicon_42 rfl rfl ?_
  refine bw_getr (r := 1) fg_BentWords_12 rfl rfl dX11_adoptLexicon_43 ?_
  refine bw_iconst (v := 0) dX11_adoptLexicon_46 (by decide) ?_
  refine bw_puti fp_BentWords_109 rfl rfl rfl dX11_adoptLexicon_47 ?_
  refine bw_aload_n (i := 0) dX11_adoptLexicon_50 rfl rfl ?_
  refine bw_getr (r := 18) fg_BentWords_44 rfl rfl dX11_adoptLexicon_51 ?_
  refine bw_geti fg_BentWords_153 rfl dX11_adoptLexicon_54 ?_
  rw [show gw_i (sw_i (sw_i w9 0 14 0) 1 1 0) 18 0 = (gw_i w9 18 0) from rfl]
  exact bw_ireturn dX11_adoptLexicon_57 rfl rfl ⟨_, rfl, h⟩
theorem wfX11_fits_35 {E : bw_E} {d : Nat} {w : bw_W} {Q : Int32 → bw_W → Prop} {l1 : Int32} {l2 : Int32} {l3 : Int32} {l4 : Int32} {l5 : Int32}  (h : (((gw_i w 18 0) ≤ l5 → Q l4 w) ∧ (¬ ((gw_i w 18 0) ≤ l5) → (∃ Q1 : Int32 → bw_W → Prop, bw_ri E (d + 1) mX11_formsLacking [.ref 0, .int l5, .int l3] w Q1 ∧ ∀ v2 w3, Q1 v2 w3 →
((¬ v2 = 0 → bw_G E (d + 2) mX11_fits 35 [some (.ref 0), some (.int l1), some (.int l2), some (.int l3), some (.int l4), some (.int (l5 + 1))] [] w3 (bw_qi Q)) ∧ (v2 = 0 → bw_G E (d + 2) mX11_fits 35 [some (.ref 0), some (.int l1), some (.int l2), some (.int l3), some (.int (l4 ||| ((1 : Int32) <<< (l5 &&& 31)))), some (.int (l5 + 1))] [] w3 (bw_qi Q))))))) : bw_G E (d + 2) mX11_fits 35 [some (.ref 0), some (.int l1), some (.int l2), some (.int l3), some (.int l4), some (.int l5)] [] w (bw_qi Q) := by
  refine bw_iload dX11_fits_35 rfl ?_
  refine bw_aload_n (i := 0) dX11_fits_37 rfl rfl ?_
  refine bw_getr (r := 18) fg_BentWords_44 rfl rfl dX11_fits_38 ?_
  refine bw_geti fg_BentWords_153 rfl dX11_fits_41 ?_
  refine bw_icmp_ge (tgt := 72) dX11_fits_44 (by decide) (fun c => ?_) (fun c => ?_)
  · replace h := h.1 (c)
    refine bw_iload dX11_fits_72 rfl ?_
    exact bw_ireturn dX11_fits_74 rfl rfl ⟨_, rfl, h⟩
  · replace h := h.2 (c)
    refine bw_aload_n (i := 0) dX11_fits_47 rfl rfl ?_
    refine bw_iload dX11_fits_48 rfl ?_
    refine bw_iload_n (i := 3) dX11_fits_50 rfl rfl ?_
    obtain ⟨Q1, hr, h⟩ := h
    refine bw_cVi (As := [.int l5, .int l3]) (st := []) cv_BentWords_279 rfl rfl hr rfl rfl (Nat.le_of_ble_eq_true rfl) dX11_fits_51 (fun v2 w3 hv => ?_)
    replace h := h v2 w3 hv
    clear hr
    refine bw_if_ne (tgt := 66) dX11_fits_54 (by decide) (fun c => ?_) (fun c => ?_)
    · replace h := h.1 (c)
      refine bw_iinc (i := 5) (x := l5) (v := (l5 + 1)) (L' := [some (.ref 0), some (.int l1), some (.int l2), some (.int l3), some (.int l4), some (.int (l5 + 1))]) dX11_fits_66 rfl rfl (Nat.le_of_ble_eq_true rfl) rfl ?_
      refine bw_goto (tgt := 35) dX11_fits_69 (by decide) ?_
      exact h
    · replace h := h.2 (c)
      refine bw_iload dX11_fits_57 rfl ?_
      refine bw_iconst (v := 1) dX11_fits_59 (by decide) ?_
      refine bw_iload dX11_fits_60 rfl ?_
      refine bw_ishl dX11_fits_62 ?_
      refine bw_ior dX11_fits_63 ?_
      refine bw_istore (i := 4) (L' := [some (.ref 0), some (.int l1), some (.int l2), some (.int l3), some (.int (l4 ||| ((1 : Int32) <<< (l5 &&& 31)))), some (.int l5)]) dX11_fits_64 (Nat.le_of_ble_eq_true rfl) rfl ?_
      refine bw_iinc (i := 5) (x := l5) (v := (l5 + 1)) (L' := [some (.ref 0), some (.int l1), some (.int l2), some (.int l3), some (.int (l4 ||| ((1 : Int32) <<< (l5 &&& 31)))), some (.int (l5 + 1))]) dX11_fits_66 rfl rfl (Nat.le_of_ble_eq_true rfl) rfl ?_
      refine bw_goto (tgt := 35) dX11_fits_69 (by decide) ?_
      exact h
theorem wfX11_fits {E : bw_E} {d : Nat} {w : bw_W} {Q : Int32 → bw_W → Prop} {a0 : Int32} {a1 : Int32}  (h : (∃ Q1 : Bool → bw_W → Prop, bw_rb E (d + 1) mX11_hasMessage [.ref 0, .int a0] w Q1 ∧ ∀ v2 w3, Q1 v2 w3 →
((v2 = false → Q (-1) w3) ∧ (v2 = true → (∃ Q4 : Bool → bw_W → Prop, bw_rb E (d + 1) mX11_isHole [.int a1] w3 Q4 ∧ ∀ v5 w6, Q4 v5 w6 →
((v5 = true → (∃ Q7 : Int32 → bw_W → Prop, bw_ri E (d + 1) mX3_casesAskedBy [.ref 18, .int a0, .int ((1 : Int32) <<< (a1 &&& 31))] w6 Q7 ∧ ∀ v8 w9, Q7 v8 w9 →
bw_G E (d + 2) mX11_fits 35 [some (.ref 0), some (.int a0), some (.int a1), some (.int v8), some (.int 0), some (.int 0)] [] w9 (bw_qi Q))) ∧ (v5 = false → Q (-1) w6))))))) : bw_ri E (d + 2) mX11_fits [.ref 0, .int a0, .int a1] w Q := by
  refine bw_enter rfl (Nat.le_of_ble_eq_true rfl) ?_
  refine bw_aload_n (i := 0) dX11_fits_0 rfl rfl ?_
  refine bw_iload_n (i := 1) dX11_fits_1 rfl rfl ?_
  obtain ⟨Q1, hr, h⟩ := h
  refine bw_cVb (As := [.int a0]) (st := []) cv_BentWords_235 rfl rfl hr rfl rfl (Nat.le_of_ble_eq_true rfl) dX11_fits_2 (fun v2 w3 hv => ?_)
  replace h := h v2 w3 hv
  clear hr
  refine bw_ifb_eq (tgt := 15) dX11_fits_5 (by decide) (fun c => ?_) (fun c => ?_)
  · replace h := h.1 (c)
    refine bw_iconst (v := (-1)) dX11_fits_15 (by decide) ?_
    exact bw_ireturn dX11_fits_16 rfl rfl ⟨_, rfl, h⟩
  · replace h := h.2 (c)
    refine bw_iload_n (i := 2) dX11_fits_8 rfl rfl ?_
    obtain ⟨Q4, hr, h⟩ := h
    refine bw_cSb (As := [.int a1]) (st := []) cs_BentWords_220 hr rfl rfl (Nat.le_of_ble_eq_true rfl) dX11_fits_9 (fun v5 w6 hv => ?_)
    replace h := h v5 w6 hv
    clear hr
    refine bw_ifb_ne (tgt := 17) dX11_fits_12 (by decide) (fun c => ?_) (fun c => ?_)
    · replace h := h.1 (c)
      refine bw_aload_n (i := 0) dX11_fits_17 rfl rfl ?_
      refine bw_getr (r := 18) fg_BentWords_44 rfl rfl dX11_fits_18 ?_
      refine bw_iload_n (i := 1) dX11_fits_21 rfl rfl ?_
      refine bw_iconst (v := 1) dX11_fits_22 (by decide) ?_
      refine bw_iload_n (i := 2) dX11_fits_23 rfl rfl ?_
      refine bw_ishl dX11_fits_24 ?_
      obtain ⟨Q7, hr, h⟩ := h
      refine bw_cVi (As := [.int a0, .int ((1 : Int32) <<< (a1 &&& 31))]) (st := []) cv_BentWords_276 rfl rfl hr rfl rfl (Nat.le_of_ble_eq_true rfl) dX11_fits_25 (fun v8 w9 hv => ?_)
      replace h := h v8 w9 hv
      clear hr
      refine bw_istore_n (i := 3) (L' := [some (.ref 0), some (.int a0), some (.int a1), some (.int v8), none, none]) dX11_fits_28 rfl (Nat.le_of_ble_eq_true rfl) rfl ?_
      refine bw_iconst (v := 0) dX11_fits_29 (by decide) ?_
      refine bw_istore (i := 4) (L' := [some (.ref 0), some (.int a0), some (.int a1), some (.int v8), some (.int 0), none]) dX11_fits_30 (Nat.le_of_ble_eq_true rfl) rfl ?_
      refine bw_iconst (v := 0) dX11_fits_32 (by decide) ?_
      refine bw_istore (i := 5) (L' := [some (.ref 0), some (.int a0), some (.int a1), some (.int v8), some (.int 0), some (.int 0)]) dX11_fits_33 (Nat.le_of_ble_eq_true rfl) rfl ?_
      exact h
    · replace h := h.2 (c)
      refine bw_iconst (v := (-1)) dX11_fits_15 (by decide) ?_
      exact bw_ireturn dX11_fits_16 rfl rfl ⟨_, rfl, h⟩
theorem wfX11_needs_26 {E : bw_E} {d : Nat} {w : bw_W} {Q : Int32 → bw_W → Prop} {l1 : Int32} {l2 : Int32} {l3 : Int32} {l4 : Int32}  (h : (((gw_i w 18 0) ≤ l4 → Q l3 w) ∧ (¬ ((gw_i w 18 0) ≤ l4) → (∃ Q1 : Int32 → bw_W → Prop, bw_ri E (d + 1) mX11_formsLacking [.ref 0, .int l4, .int l2] w Q1 ∧ ∀ v2 w3, Q1 v2 w3 →
bw_G E (d + 2) mX11_needs 26 [some (.ref 0), some (.int l1), some (.int l2), some (.int (l3 + v2)), some (.int (l4 + 1))] [] w3 (bw_qi Q))))) : bw_G E (d + 2) mX11_needs 26 [some (.ref 0), some (.int l1), some (.int l2), some (.int l3), some (.int l4)] [] w (bw_qi Q) := by
  refine bw_iload dX11_needs_26 rfl ?_
  refine bw_aload_n (i := 0) dX11_needs_28 rfl rfl ?_
  refine bw_getr (r := 18) fg_BentWords_44 rfl rfl dX11_needs_29 ?_
  refine bw_geti fg_BentWords_153 rfl dX11_needs_32 ?_
  refine bw_icmp_ge (tgt := 54) dX11_needs_35 (by decide) (fun c => ?_) (fun c => ?_)
  · replace h := h.1 (c)
    refine bw_iload_n (i := 3) dX11_needs_54 rfl rfl ?_
    exact bw_ireturn dX11_needs_55 rfl rfl ⟨_, rfl, h⟩
  · replace h := h.2 (c)
    refine bw_iload_n (i := 3) dX11_needs_38 rfl rfl ?_
    refine bw_aload_n (i := 0) dX11_needs_39 rfl rfl ?_
    refine bw_iload dX11_needs_40 rfl ?_
    refine bw_iload_n (i := 2) dX11_needs_42 rfl rfl ?_
    obtain ⟨Q1, hr, h⟩ := h
    refine bw_cVi (As := [.int l4, .int l2]) (st := [.int l3]) cv_BentWords_279 rfl rfl hr rfl rfl (Nat.le_of_ble_eq_true rfl) dX11_needs_43 (fun v2 w3 hv => ?_)
    replace h := h v2 w3 hv
    clear hr
    refine bw_iadd dX11_needs_46 ?_
    refine bw_istore_n (i := 3) (L' := [some (.ref 0), some (.int l1), some (.int l2), some (.int (l3 + v2)), some (.int l4)]) dX11_needs_47 rfl (Nat.le_of_ble_eq_true rfl) rfl ?_
    refine bw_iinc (i := 4) (x := l4) (v := (l4 + 1)) (L' := [some (.ref 0), some (.int l1), some (.int l2), some (.int (l3 + v2)), some (.int (l4 + 1))]) dX11_needs_48 rfl rfl (Nat.le_of_ble_eq_true rfl) rfl ?_
    refine bw_goto (tgt := 26) dX11_needs_51 (by decide) ?_
    exact h
theorem wfX11_needs {E : bw_E} {d : Nat} {w : bw_W} {Q : Int32 → bw_W → Prop} {a0 : Int32}  (h : (∃ Q1 : Bool → bw_W → Prop, bw_rb E (d + 1) mX11_hasMessage [.ref 0, .int a0] w Q1 ∧ ∀ v2 w3, Q1 v2 w3 →
((v2 = true → (∃ Q4 : Int32 → bw_W → Prop, bw_ri E (d + 1) mX3_casesAskedBy [.ref 18, .int a0, .int 7] w3 Q4 ∧ ∀ v5 w6, Q4 v5 w6 →
bw_G E (d + 2) mX11_needs 26 [some (.ref 0), some (.int a0), some (.int v5), some (.int 0), some (.int 0)] [] w6 (bw_qi Q))) ∧ (v2 = false → Q (-1) w3)))) : bw_ri E (d + 2) mX11_needs [.ref 0, .int a0] w Q := by
  refine bw_enter rfl (Nat.le_of_ble_eq_true rfl) ?_
  refine bw_aload_n (i := 0) dX11_needs_0 rfl rfl ?_
  refine bw_iload_n (i := 1) dX11_needs_1 rfl rfl ?_
  obtain ⟨Q1, hr, h⟩ := h
  refine bw_cVb (As := [.int a0]) (st := []) cv_BentWords_235 rfl rfl hr rfl rfl (Nat.le_of_ble_eq_true rfl) dX11_needs_2 (fun v2 w3 hv => ?_)
  replace h := h v2 w3 hv
  clear hr
  refine bw_ifb_ne (tgt := 10) dX11_needs_5 (by decide) (fun c => ?_) (fun c => ?_)
  · replace h := h.1 (c)
    refine bw_aload_n (i := 0) dX11_needs_10 rfl rfl ?_
    refine bw_getr (r := 18) fg_BentWords_44 rfl rfl dX11_needs_11 ?_
    refine bw_iload_n (i := 1) dX11_needs_14 rfl rfl ?_
    refine bw_bipush (v := 7) dX11_needs_15 (by decide) ?_
    obtain ⟨Q4, hr, h⟩ := h
    refine bw_cVi (As := [.int a0, .int 7]) (st := []) cv_BentWords_276 rfl rfl hr rfl rfl (Nat.le_of_ble_eq_true rfl) dX11_needs_17 (fun v5 w6 hv => ?_)
    replace h := h v5 w6 hv
    clear hr
    refine bw_istore_n (i := 2) (L' := [some (.ref 0), some (.int a0), some (.int v5), none, none]) dX11_needs_20 rfl (Nat.le_of_ble_eq_true rfl) rfl ?_
    refine bw_iconst (v := 0) dX11_needs_21 (by decide) ?_
    refine bw_istore_n (i := 3) (L' := [some (.ref 0), some (.int a0), some (.int v5), some (.int 0), none]) dX11_needs_22 rfl (Nat.le_of_ble_eq_true rfl) rfl ?_
    refine bw_iconst (v := 0) dX11_needs_23 (by decide) ?_
    refine bw_istore (i := 4) (L' := [some (.ref 0), some (.int a0), some (.int v5), some (.int 0), some (.int 0)]) dX11_needs_24 (Nat.le_of_ble_eq_true rfl) rfl ?_
    exact h
  · replace h := h.2 (c)
    refine bw_iconst (v := (-1)) dX11_needs_8 (by decide) ?_
    exact bw_ireturn dX11_needs_9 rfl rfl ⟨_, rfl, h⟩
theorem wfX11_log {E : bw_E} {d : Nat} {w : bw_W} {Q : Int32 → bw_W → Prop} {a0 : Int32} {a1 : Int32}  (h : ((a0 < 0 → Q (-1000000) w) ∧ (¬ (a0 < 0) → (∃ Q1 : Int32 → bw_W → Prop, bw_ri E (d + 1) mX2_logged [.ref 37] w Q1 ∧ ∀ v2 w3, Q1 v2 w3 →
((a0 < v2 → (∃ Q4 : Int32 → bw_W → Prop, bw_ri E (d + 1) mX2_rowAt [.ref 37, .int a0] w3 Q4 ∧ ∀ v5 w6, Q4 v5 w6 →
((a1 = 0 → (∃ Q7 : Int32 → bw_W → Prop, bw_ri E (d + 1) mX2_sortIn [.int v5] w6 Q7 ∧ ∀ v8 w9, Q7 v8 w9 →
Q v8 w9)) ∧ (a1 = 1 → (∃ Q10 : Int32 → bw_W → Prop, bw_ri E (d + 1) mX2_numberIn [.int v5] w6 Q10 ∧ ∀ v11 w12, Q10 v11 w12 →
Q v11 w12)) ∧ (a1 = 2 → (∃ Q13 : Int32 → bw_W → Prop, bw_ri E (d + 1) mX2_tellableIn [.int v5] w6 Q13 ∧ ∀ v14 w15, Q13 v14 w15 →
Q v14 w15)) ∧ (a1.toInt < 0 ∨ 2 < a1.toInt → Q (-1000000) w6)))) ∧ (¬ (a0 < v2) → Q (-1000000) w3)))))) : bw_ri E (d + 2) mX11_log [.ref 0, .int a0, .int a1] w Q := by
  refine bw_enter rfl (Nat.le_of_ble_eq_true rfl) ?_
  refine bw_iload_n (i := 1) dX11_log_0 rfl rfl ?_
  refine bw_if_lt (tgt := 15) dX11_log_1 (by decide) (fun c => ?_) (fun c => ?_)
  · replace h := h.1 (c)
    refine bw_ldcw ki_BentWords_345 dX11_log_15 ?_
    exact bw_ireturn dX11_log_18 rfl rfl ⟨_, rfl, h⟩
  · replace h := h.2 (c)
    refine bw_iload_n (i := 1) dX11_log_4 rfl rfl ?_
    refine bw_aload_n (i := 0) dX11_log_5 rfl rfl ?_
    refine bw_getr (r := 37) fg_BentWords_77 rfl rfl dX11_log_6 ?_
    obtain ⟨Q1, hr, h⟩ := h
    refine bw_cVi (As := []) (st := [.int a0]) cv_BentWords_342 rfl rfl hr rfl rfl (Nat.le_of_ble_eq_true rfl) dX11_log_9 (fun v2 w3 hv => ?_)
    replace h := h v2 w3 hv
    clear hr
    refine bw_icmp_lt (tgt := 19) dX11_log_12 (by decide) (fun c => ?_) (fun c => ?_)
    · replace h := h.1 (c)
      refine bw_aload_n (i := 0) dX11_log_19 rfl rfl ?_
      refine bw_getr (r := 37) fg_BentWords_77 rfl rfl dX11_log_20 ?_
      refine bw_iload_n (i := 1) dX11_log_23 rfl rfl ?_
      obtain ⟨Q4, hr, h⟩ := h
      refine bw_cVi (As := [.int a0]) (st := []) cv_BentWords_346 rfl rfl hr rfl rfl (Nat.le_of_ble_eq_true rfl) dX11_log_24 (fun v5 w6 hv => ?_)
      replace h := h v5 w6 hv
      clear hr
      refine bw_istore_n (i := 3) (L' := [some (.ref 0), some (.int a0), some (.int a1), some (.int v5)]) dX11_log_27 rfl (Nat.le_of_ble_eq_true rfl) rfl ?_
      refine bw_iload_n (i := 2) dX11_log_28 rfl rfl ?_
      refine bw_tabsw dX11_log_29 [56, 61, 66] 71 (by decide) rfl rfl (fun j hj hx => ?_) (fun hx => ?_)
      · match j, hj, hx with
        | 0, _, hx =>
          replace h := h.1 (bw_ti hx (by decide))
          refine bw_iload_n (i := 3) dX11_log_56 rfl rfl ?_
          obtain ⟨Q7, hr, h⟩ := h
          refine bw_cSi (As := [.int v5]) (st := []) cs_BentWords_349 hr rfl rfl (Nat.le_of_ble_eq_true rfl) dX11_log_57 (fun v8 w9 hv => ?_)
          replace h := h v8 w9 hv
          clear hr
          exact bw_ireturn dX11_log_60 rfl rfl ⟨_, rfl, h⟩
        | 1, _, hx =>
          replace h := h.2.1 (bw_ti hx (by decide))
          refine bw_iload_n (i := 3) dX11_log_61 rfl rfl ?_
          obtain ⟨Q10, hr, h⟩ := h
          refine bw_cSi (As := [.int v5]) (st := []) cs_BentWords_352 hr rfl rfl (Nat.le_of_ble_eq_true rfl) dX11_log_62 (fun v11 w12 hv => ?_)
          replace h := h v11 w12 hv
          clear hr
          exact bw_ireturn dX11_log_65 rfl rfl ⟨_, rfl, h⟩
        | 2, _, hx =>
          replace h := h.2.2.1 (bw_ti hx (by decide))
          refine bw_iload_n (i := 3) dX11_log_66 rfl rfl ?_
          obtain ⟨Q13, hr, h⟩ := h
          refine bw_cSi (As := [.int v5]) (st := []) cs_BentWords_353 hr rfl rfl (Nat.le_of_ble_eq_true rfl) dX11_log_67 (fun v14 w15 hv => ?_)
          replace h := h v14 w15 hv
          clear hr
          exact bw_ireturn dX11_log_70 rfl rfl ⟨_, rfl, h⟩
        | j + 3, hj, _ => exact absurd hj (by simp)
      · replace h := h.2.2.2 hx
        refine bw_ldcw ki_BentWords_345 dX11_log_71 ?_
        exact bw_ireturn dX11_log_74 rfl rfl ⟨_, rfl, h⟩
    · replace h := h.2 (c)
      refine bw_ldcw ki_BentWords_345 dX11_log_15 ?_
      exact bw_ireturn dX11_log_18 rfl rfl ⟨_, rfl, h⟩
theorem wfX11_refusalOf {E : bw_E} {d : Nat} {w : bw_W} {Q : Int32 → bw_W → Prop} {sp : Nat} (h_sp : bw_sh sp = (0, 8, 5)) (h : ((¬ (gw_i w 0 5) = 0 → (∃ Q1 : Int32 → bw_W → Prop, bw_ri E (d + 1) mX11_boundsRefusal [.ref 0, .ref sp] w Q1 ∧ ∀ v2 w3, Q1 v2 w3 →
((v2 = (-1) → (∃ Q4 : Int32 → bw_W → Prop, bw_ri E (d + 1) mX8_cell [.ref sp] w3 Q4 ∧ ∀ v5 w6, Q4 v5 w6 →
(vp_in v5 52) ∧
(∃ Q8 : Int64 → bw_W → Prop, bw_rl E (d + 1) mX8_value [.ref sp] w6 Q8 ∧ ∀ v9 w10, Q8 v9 w10 →
((¬ (gw_l w6 32 (v5.toNatClampNeg)) = v9 → Q (-1) w10) ∧ ((gw_l w6 32 (v5.toNatClampNeg)) = v9 → Q 2 w10))))) ∧ (¬ (v2 = (-1)) → Q v2 w3)))) ∧ ((gw_i w 0 5) = 0 → Q 0 w))) : bw_ri E (d + 2) mX11_refusalOf [.ref 0, .ref sp] w Q := by
  refine bw_enter rfl (Nat.le_of_ble_eq_true rfl) ?_
  refine bw_aload_n (i := 0) dX11_refusalOf_0 rfl rfl ?_
  refine bw_geti fg_BentWords_140 rfl dX11_refusalOf_1 ?_
  refine bw_if_ne (tgt := 9) dX11_refusalOf_4 (by decide) (fun c => ?_) (fun c => ?_)
  · replace h := h.1 (c)
    refine bw_aload_n (i := 0) dX11_refusalOf_9 rfl rfl ?_
    refine bw_aload_n (i := 1) dX11_refusalOf_10 rfl rfl ?_
    obtain ⟨Q1, hr, h⟩ := h
    refine bw_cVi (As := [.ref sp]) (st := []) cv_BentWords_385 rfl rfl hr rfl rfl (Nat.le_of_ble_eq_true rfl) dX11_refusalOf_11 (fun v2 w3 hv => ?_)
    replace h := h v2 w3 hv
    clear hr
    refine bw_istore_n (i := 2) (L' := [some (.ref 0), some (.ref sp), some (.int v2)]) dX11_refusalOf_14 rfl (Nat.le_of_ble_eq_true rfl) rfl ?_
    refine bw_iload_n (i := 2) dX11_refusalOf_15 rfl rfl ?_
    refine bw_iconst (v := (-1)) dX11_refusalOf_16 (by decide) ?_
    refine bw_icmp_eq (tgt := 22) dX11_refusalOf_17 (by decide) (fun c => ?_) (fun c => ?_)
    · replace h := h.1 (c)
      refine bw_aload_n (i := 0) dX11_refusalOf_22 rfl rfl ?_
      refine bw_getr (r := 31) fg_BentWords_58 rfl rfl dX11_refusalOf_23 ?_
      refine bw_getr (r := 32) fg_BentWords_170 rfl rfl dX11_refusalOf_26 ?_
      refine bw_aload_n (i := 1) dX11_refusalOf_29 rfl rfl ?_
      obtain ⟨Q4, hr, h⟩ := h
      refine bw_cVi (As := []) (st := [.ref 32]) cv_BentWords_360 h_sp rfl hr rfl rfl (Nat.le_of_ble_eq_true rfl) dX11_refusalOf_30 (fun v5 w6 hv => ?_)
      replace h := h v5 w6 hv
      clear hr
      obtain ⟨hi7, h⟩ := h
      refine bw_laload rfl hi7 dX11_refusalOf_33 ?_
      refine bw_aload_n (i := 1) dX11_refusalOf_34 rfl rfl ?_
      obtain ⟨Q8, hr, h⟩ := h
      refine bw_cVl (As := []) (st := [.long (gw_l w6 32 (v5.toNatClampNeg))]) cv_BentWords_363 h_sp rfl hr rfl rfl (Nat.le_of_ble_eq_true rfl) dX11_refusalOf_35 (fun v9 w10 hv => ?_)
      replace h := h v9 w10 hv
      clear hr
      refine bw_lcmp_ne (tgt := 46) dX11_refusalOf_38 dX11_refusalOf_39 (by decide) (fun c => ?_) (fun c => ?_)
      · replace h := h.1 (c)
        refine bw_iconst (v := (-1)) dX11_refusalOf_46 (by decide) ?_
        exact bw_ireturn dX11_refusalOf_47 rfl rfl ⟨_, rfl, h⟩
      · replace h := h.2 (c)
        refine bw_iconst (v := 2) dX11_refusalOf_42 (by decide) ?_
        refine bw_goto (tgt := 47) dX11_refusalOf_43 (by decide) ?_
        exact bw_ireturn dX11_refusalOf_47 rfl rfl ⟨_, rfl, h⟩
    · replace h := h.2 (c)
      refine bw_iload_n (i := 2) dX11_refusalOf_20 rfl rfl ?_
      exact bw_ireturn dX11_refusalOf_21 rfl rfl ⟨_, rfl, h⟩
  · replace h := h.2 (c)
    refine bw_iconst (v := 0) dX11_refusalOf_7 (by decide) ?_
    exact bw_ireturn dX11_refusalOf_8 rfl rfl ⟨_, rfl, h⟩
theorem wfX11_step {E : bw_E} {d : Nat} {w : bw_W} {Q : Int32 → bw_W → Prop} {a0 : Int32} {a1 : Int32} {a2 : Int32}  (h : (∃ Q1 : Bool → bw_W → Prop, bw_rb E (d + 1) mX11_hasScript [.ref 0, .int a0] w Q1 ∧ ∀ v2 w3, Q1 v2 w3 →
((v2 = false → Q (-1000000) w3) ∧ (v2 = true → ((a1 < 0 → Q (-1000000) w3) ∧ (¬ (a1 < 0) → (vp_in a0 5) ∧
(bw_sh (bw_rf 30 (a0.toNatClampNeg)) = (0, 5, 2)) ∧
((a1 < (gw_i w3 (bw_rf 30 (a0.toNatClampNeg)) 0) → (vp_in a0 5) ∧
(bw_sh (bw_rf (bw_rf 30 (a0.toNatClampNeg)) 1) = (5, 12, 0)) ∧
(vp_in a1 12) ∧
((a2 = 0 → (bw_sh (bw_rf (bw_rf (bw_rf 30 (a0.toNatClampNeg)) 1) (a1.toNatClampNeg)) = (0, 8, 5)) ∧
Q (gw_i w3 (bw_rf (bw_rf (bw_rf 30 (a0.toNatClampNeg)) 1) (a1.toNatClampNeg)) 0) w3) ∧ (a2 = 1 → (bw_sh (bw_rf (bw_rf (bw_rf 30 (a0.toNatClampNeg)) 1) (a1.toNatClampNeg)) = (0, 8, 5)) ∧
Q (gw_i w3 (bw_rf (bw_rf (bw_rf 30 (a0.toNatClampNeg)) 1) (a1.toNatClampNeg)) 1) w3) ∧ (a2 = 2 → (bw_sh (bw_rf (bw_rf (bw_rf 30 (a0.toNatClampNeg)) 1) (a1.toNatClampNeg)) = (0, 8, 5)) ∧
(∃ Q12 : Bool → bw_W → Prop, bw_rb E (d + 1) mX8_hasThreeNumbers [.ref (bw_rf (bw_rf (bw_rf 30 (a0.toNatClampNeg)) 1) (a1.toNatClampNeg))] w3 Q12 ∧ ∀ v13 w14, Q12 v13 w14 →
((v13 = false → Q (-1000000) w14) ∧ (v13 = true → Q (gw_i w14 (bw_rf (bw_rf (bw_rf 30 (a0.toNatClampNeg)) 1) (a1.toNatClampNeg)) 2) w14)))) ∧ (a2 = 3 → (bw_sh (bw_rf (bw_rf (bw_rf 30 (a0.toNatClampNeg)) 1) (a1.toNatClampNeg)) = (0, 8, 5)) ∧
(∃ Q16 : Bool → bw_W → Prop, bw_rb E (d + 1) mX8_hasThreeNumbers [.ref (bw_rf (bw_rf (bw_rf 30 (a0.toNatClampNeg)) 1) (a1.toNatClampNeg))] w3 Q16 ∧ ∀ v17 w18, Q16 v17 w18 →
((v17 = false → Q (-1000000) w18) ∧ (v17 = true → Q (gw_i w18 (bw_rf (bw_rf (bw_rf 30 (a0.toNatClampNeg)) 1) (a1.toNatClampNeg)) 3) w18)))) ∧ (a2 = 4 → (bw_sh (bw_rf (bw_rf (bw_rf 30 (a0.toNatClampNeg)) 1) (a1.toNatClampNeg)) = (0, 8, 5)) ∧
(∃ Q20 : Int32 → bw_W → Prop, bw_ri E (d + 1) mX11_lettersOf [.long (gw_l w3 (bw_rf (bw_rf (bw_rf 30 (a0.toNatClampNeg)) 1) (a1.toNatClampNeg)) 4)] w3 Q20 ∧ ∀ v21 w22, Q20 v21 w22 →
Q v21 w22)) ∧ (a2.toInt < 0 ∨ 4 < a2.toInt → Q (-1000000) w3))) ∧ (¬ (a1 < (gw_i w3 (bw_rf 30 (a0.toNatClampNeg)) 0)) → Q (-1000000) w3)))))))) : bw_ri E (d + 2) mX11_step [.ref 0, .int a0, .int a1, .int a2] w Q := by
  refine bw_enter rfl (Nat.le_of_ble_eq_true rfl) ?_
  refine bw_aload_n (i := 0) dX11_step_0 rfl rfl ?_
  refine bw_iload_n (i := 1) dX11_step_1 rfl rfl ?_
  obtain ⟨Q1, hr, h⟩ := h
  refine bw_cVb (As := [.int a0]) (st := []) cv_BentWords_397 rfl rfl hr rfl rfl (Nat.le_of_ble_eq_true rfl) dX11_step_2 (fun v2 w3 hv => ?_)
  replace h := h v2 w3 hv
  clear hr
  refine bw_ifb_eq (tgt := 25) dX11_step_5 (by decide) (fun c => ?_) (fun c => ?_)
  · replace h := h.1 (c)
    refine bw_ldcw ki_BentWords_345 dX11_step_25 ?_
    exact bw_ireturn dX11_step_28 rfl rfl ⟨_, rfl, h⟩
  · replace h := h.2 (c)
    refine bw_iload_n (i := 2) dX11_step_8 rfl rfl ?_
    refine bw_if_lt (tgt := 25) dX11_step_9 (by decide) (fun c => ?_) (fun c => ?_)
    · replace h := h.1 (c)
      refine bw_ldcw ki_BentWords_345 dX11_step_25 ?_
      exact bw_ireturn dX11_step_28 rfl rfl ⟨_, rfl, h⟩
    · replace h := h.2 (c)
      refine bw_iload_n (i := 2) dX11_step_12 rfl rfl ?_
      refine bw_aload_n (i := 0) dX11_step_13 rfl rfl ?_
      refine bw_getr (r := 30) fg_BentWords_50 rfl rfl dX11_step_14 ?_
      refine bw_iload_n (i := 1) dX11_step_17 rfl rfl ?_
      obtain ⟨hi4, h⟩ := h
      refine bw_aaload4 (r := (bw_rf 30 (a0.toNatClampNeg))) rfl hi4 rfl dX11_step_18 ?_
      obtain ⟨hs5, h⟩ := h
      refine bw_geti fg_BentWords_400 hs5 dX11_step_19 ?_
      refine bw_icmp_lt (tgt := 29) dX11_step_22 (by decide) (fun c => ?_) (fun c => ?_)
      · replace h := h.1 (c)
        refine bw_aload_n (i := 0) dX11_step_29 rfl rfl ?_
        refine bw_getr (r := 30) fg_BentWords_50 rfl rfl dX11_step_30 ?_
        refine bw_iload_n (i := 1) dX11_step_33 rfl rfl ?_
        obtain ⟨hi6, h⟩ := h
        refine bw_aaload4 (r := (bw_rf 30 (a0.toNatClampNeg))) rfl hi6 rfl dX11_step_34 ?_
        refine bw_getr (r := (bw_rf (bw_rf 30 (a0.toNatClampNeg)) 1)) fg_BentWords_401 hs5 rfl dX11_step_35 ?_
        refine bw_iload_n (i := 2) dX11_step_38 rfl rfl ?_
        obtain ⟨hs7, h⟩ := h
        obtain ⟨hi8, h⟩ := h
        refine bw_aaload5 (r := (bw_rf (bw_rf (bw_rf 30 (a0.toNatClampNeg)) 1) (a1.toNatClampNeg))) hs7 hi8 rfl dX11_step_39 ?_
        refine bw_astore (i := 4) (L' := [some (.ref 0), some (.int a0), some (.int a1), some (.int a2), some (.ref (bw_rf (bw_rf (bw_rf 30 (a0.toNatClampNeg)) 1) (a1.toNatClampNeg)))]) dX11_step_40 (Nat.le_of_ble_eq_true rfl) rfl ?_
        refine bw_iload_n (i := 3) dX11_step_42 rfl rfl ?_
        refine bw_tabsw dX11_step_43 [76, 82, 88, 108, 128] 137 (by decide) rfl rfl (fun j hj hx => ?_) (fun hx => ?_)
        · match j, hj, hx with
          | 0, _, hx =>
            replace h := h.1 (bw_ti hx (by decide))
            refine bw_aload dX11_step_76 rfl ?_
            obtain ⟨hs9, h⟩ := h
            refine bw_geti fg_BentWords_370 hs9 dX11_step_78 ?_
            exact bw_ireturn dX11_step_81 rfl rfl ⟨_, rfl, h⟩
          | 1, _, hx =>
            replace h := h.2.1 (bw_ti hx (by decide))
            refine bw_aload dX11_step_82 rfl ?_
            obtain ⟨hs10, h⟩ := h
            refine bw_geti fg_BentWords_373 hs10 dX11_step_84 ?_
            exact bw_ireturn dX11_step_87 rfl rfl ⟨_, rfl, h⟩
          | 2, _, hx =>
            replace h := h.2.2.1 (bw_ti hx (by decide))
            refine bw_aload dX11_step_88 rfl ?_
            obtain ⟨hs11, h⟩ := h
            obtain ⟨Q12, hr, h⟩ := h
            refine bw_cVb (As := []) (st := []) cv_BentWords_405 hs11 rfl hr rfl rfl (Nat.le_of_ble_eq_true rfl) dX11_step_90 (fun v13 w14 hv => ?_)
            replace h := h v13 w14 hv
            clear hr
            refine bw_ifb_eq (tgt := 104) dX11_step_93 (by decide) (fun c => ?_) (fun c => ?_)
            · replace h := h.1 (c)
              refine bw_ldcw ki_BentWords_345 dX11_step_104 ?_
              exact bw_ireturn dX11_step_107 rfl rfl ⟨_, rfl, h⟩
            · replace h := h.2 (c)
              refine bw_aload dX11_step_96 rfl ?_
              refine bw_geti fg_BentWords_388 hs11 dX11_step_98 ?_
              refine bw_goto (tgt := 107) dX11_step_101 (by decide) ?_
              exact bw_ireturn dX11_step_107 rfl rfl ⟨_, rfl, h⟩
          | 3, _, hx =>
            replace h := h.2.2.2.1 (bw_ti hx (by decide))
            refine bw_aload dX11_step_108 rfl ?_
            obtain ⟨hs15, h⟩ := h
            obtain ⟨Q16, hr, h⟩ := h
            refine bw_cVb (As := []) (st := []) cv_BentWords_405 hs15 rfl hr rfl rfl (Nat.le_of_ble_eq_true rfl) dX11_step_110 (fun v17 w18 hv => ?_)
            replace h := h v17 w18 hv
            clear hr
            refine bw_ifb_eq (tgt := 124) dX11_step_113 (by decide) (fun c => ?_) (fun c => ?_)
            · replace h := h.1 (c)
              refine bw_ldcw ki_BentWords_345 dX11_step_124 ?_
              exact bw_ireturn dX11_step_127 rfl rfl ⟨_, rfl, h⟩
            · replace h := h.2 (c)
              refine bw_aload dX11_step_116 rfl ?_
              refine bw_geti fg_BentWords_391 hs15 dX11_step_118 ?_
              refine bw_goto (tgt := 127) dX11_step_121 (by decide) ?_
              exact bw_ireturn dX11_step_127 rfl rfl ⟨_, rfl, h⟩
          | 4, _, hx =>
            replace h := h.2.2.2.2.1 (bw_ti hx (by decide))
            refine bw_aload dX11_step_128 rfl ?_
            obtain ⟨hs19, h⟩ := h
            refine bw_getl fg_BentWords_394 hs19 dX11_step_130 ?_
            obtain ⟨Q20, hr, h⟩ := h
            refine bw_cSi (As := [.long (gw_l w3 (bw_rf (bw_rf (bw_rf 30 (a0.toNatClampNeg)) 1) (a1.toNatClampNeg)) 4)]) (st := []) cs_BentWords_193 hr rfl rfl (Nat.le_of_ble_eq_true rfl) dX11_step_133 (fun v21 w22 hv => ?_)
            replace h := h v21 w22 hv
            clear hr
            exact bw_ireturn dX11_step_136 rfl rfl ⟨_, rfl, h⟩
          | j + 5, hj, _ => exact absurd hj (by simp)
        · replace h := h.2.2.2.2.2 hx
          refine bw_ldcw ki_BentWords_345 dX11_step_137 ?_
          exact bw_ireturn dX11_step_140 rfl rfl ⟨_, rfl, h⟩
      · replace h := h.2 (c)
        refine bw_ldcw ki_BentWords_345 dX11_step_25 ?_
        exact bw_ireturn dX11_step_28 rfl rfl ⟨_, rfl, h⟩
theorem wfX11_nounOfFewestForms_4 {E : bw_E} {d : Nat} {w : bw_W} {Q : Int32 → bw_W → Prop} {l1 : Int32} {l2 : Int32}  (h : (((gw_i w 18 0) ≤ l2 → Q l1 w) ∧ (¬ ((gw_i w 18 0) ≤ l2) → (∃ Q1 : Int32 → bw_W → Prop, bw_ri E (d + 1) mX11_formsToldOf [.ref 0, .int l2] w Q1 ∧ ∀ v2 w3, Q1 v2 w3 →
(∃ Q4 : Int32 → bw_W → Prop, bw_ri E (d + 1) mX11_formsToldOf [.ref 0, .int l1] w3 Q4 ∧ ∀ v5 w6, Q4 v5 w6 →
((v5 ≤ v2 → bw_G E (d + 2) mX11_nounOfFewestForms 4 [some (.ref 0), some (.int l1), some (.int (l2 + 1))] [] w6 (bw_qi Q)) ∧ (¬ (v5 ≤ v2) → bw_G E (d + 2) mX11_nounOfFewestForms 4 [some (.ref 0), some (.int l2), some (.int (l2 + 1))] [] w6 (bw_qi Q)))))))) : bw_G E (d + 2) mX11_nounOfFewestForms 4 [some (.ref 0), some (.int l1), some (.int l2)] [] w (bw_qi Q) := by
  refine bw_iload_n (i := 2) dX11_nounOfFewestForms_4 rfl rfl ?_
  refine bw_aload_n (i := 0) dX11_nounOfFewestForms_5 rfl rfl ?_
  refine bw_getr (r := 18) fg_BentWords_44 rfl rfl dX11_nounOfFewestForms_6 ?_
  refine bw_geti fg_BentWords_153 rfl dX11_nounOfFewestForms_9 ?_
  refine bw_icmp_ge (tgt := 36) dX11_nounOfFewestForms_12 (by decide) (fun c => ?_) (fun c => ?_)
  · replace h := h.1 (c)
    refine bw_iload_n (i := 1) dX11_nounOfFewestForms_36 rfl rfl ?_
    exact bw_ireturn dX11_nounOfFewestForms_37 rfl rfl ⟨_, rfl, h⟩
  · replace h := h.2 (c)
    refine bw_aload_n (i := 0) dX11_nounOfFewestForms_15 rfl rfl ?_
    refine bw_iload_n (i := 2) dX11_nounOfFewestForms_16 rfl rfl ?_
    obtain ⟨Q1, hr, h⟩ := h
    refine bw_cVi (As := [.int l2]) (st := []) cv_BentWords_197 rfl rfl hr rfl rfl (Nat.le_of_ble_eq_true rfl) dX11_nounOfFewestForms_17 (fun v2 w3 hv => ?_)
    replace h := h v2 w3 hv
    clear hr
    refine bw_aload_n (i := 0) dX11_nounOfFewestForms_20 rfl rfl ?_
    refine bw_iload_n (i := 1) dX11_nounOfFewestForms_21 rfl rfl ?_
    obtain ⟨Q4, hr, h⟩ := h
    refine bw_cVi (As := [.int l1]) (st := [.int v2]) cv_BentWords_197 rfl rfl hr rfl rfl (Nat.le_of_ble_eq_true rfl) dX11_nounOfFewestForms_22 (fun v5 w6 hv => ?_)
    replace h := h v5 w6 hv
    clear hr
    refine bw_icmp_ge (tgt := 30) dX11_nounOfFewestForms_25 (by decide) (fun c => ?_) (fun c => ?_)
    · replace h := h.1 (c)
      refine bw_iinc (i := 2) (x := l2) (v := (l2 + 1)) (L' := [some (.ref 0), some (.int l1), some (.int (l2 + 1))]) dX11_nounOfFewestForms_30 rfl rfl (Nat.le_of_ble_eq_true rfl) rfl ?_
      refine bw_goto (tgt := 4) dX11_nounOfFewestForms_33 (by decide) ?_
      exact h
    · replace h := h.2 (c)
      refine bw_iload_n (i := 2) dX11_nounOfFewestForms_28 rfl rfl ?_
      refine bw_istore_n (i := 1) (L' := [some (.ref 0), some (.int l2), some (.int l2)]) dX11_nounOfFewestForms_29 rfl (Nat.le_of_ble_eq_true rfl) rfl ?_
      refine bw_iinc (i := 2) (x := l2) (v := (l2 + 1)) (L' := [some (.ref 0), some (.int l2), some (.int (l2 + 1))]) dX11_nounOfFewestForms_30 rfl rfl (Nat.le_of_ble_eq_true rfl) rfl ?_
      refine bw_goto (tgt := 4) dX11_nounOfFewestForms_33 (by decide) ?_
      exact h
theorem wfX11_nounOfFewestForms {E : bw_E} {d : Nat} {w : bw_W} {Q : Int32 → bw_W → Prop}   (h : bw_G E (d + 2) mX11_nounOfFewestForms 4 [some (.ref 0), some (.int 0), some (.int 1)] [] w (bw_qi Q)) : bw_ri E (d + 2) mX11_nounOfFewestForms [.ref 0] w Q := by
  refine bw_enter rfl (Nat.le_of_ble_eq_true rfl) ?_
  refine bw_iconst (v := 0) dX11_nounOfFewestForms_0 (by decide) ?_
  refine bw_istore_n (i := 1) (L' := [some (.ref 0), some (.int 0), none]) dX11_nounOfFewestForms_1 rfl (Nat.le_of_ble_eq_true rfl) rfl ?_
  refine bw_iconst (v := 1) dX11_nounOfFewestForms_2 (by decide) ?_
  refine bw_istore_n (i := 2) (L' := [some (.ref 0), some (.int 0), some (.int 1)]) dX11_nounOfFewestForms_3 rfl (Nat.le_of_ble_eq_true rfl) rfl ?_
  exact h
theorem wfX11_count {E : bw_E} {d : Nat} {w : bw_W} {Q : Int32 → bw_W → Prop} {a0 : Int32}  (h : ((a0 = 0 → Q (gw_i w 18 0) w) ∧ (a0 = 1 → Q (gw_i w 0 7) w) ∧ (a0 = 2 → Q (gw_i w 1 1) w) ∧ (a0 = 3 → (∃ Q1 : Int32 → bw_W → Prop, bw_ri E (d + 1) mX2_logged [.ref 37] w Q1 ∧ ∀ v2 w3, Q1 v2 w3 →
Q v2 w3)) ∧ (a0 = 4 → Q (gw_i w 37 4) w) ∧ (a0.toInt < 0 ∨ 4 < a0.toInt → Q (-1000000) w))) : bw_ri E (d + 2) mX11_count [.ref 0, .int a0] w Q := by
  refine bw_enter rfl (Nat.le_of_ble_eq_true rfl) ?_
  refine bw_iload_n (i := 1) dX11_count_0 rfl rfl ?_
  refine bw_tabsw dX11_count_1 [36, 44, 49, 57, 65] 73 (by decide) rfl rfl (fun j hj hx => ?_) (fun hx => ?_)
  · match j, hj, hx with
    | 0, _, hx =>
      replace h := h.1 (bw_ti hx (by decide))
      refine bw_aload_n (i := 0) dX11_count_36 rfl rfl ?_
      refine bw_getr (r := 18) fg_BentWords_44 rfl rfl dX11_count_37 ?_
      refine bw_geti fg_BentWords_153 rfl dX11_count_40 ?_
      exact bw_ireturn dX11_count_43 rfl rfl ⟨_, rfl, h⟩
    | 1, _, hx =>
      replace h := h.2.1 (bw_ti hx (by decide))
      refine bw_aload_n (i := 0) dX11_count_44 rfl rfl ?_
      refine bw_geti fg_BentWords_121 rfl dX11_count_45 ?_
      exact bw_ireturn dX11_count_48 rfl rfl ⟨_, rfl, h⟩
    | 2, _, hx =>
      replace h := h.2.2.1 (bw_ti hx (by decide))
      refine bw_aload_n (i := 0) dX11_count_49 rfl rfl ?_
      refine bw_getr (r := 1) fg_BentWords_12 rfl rfl dX11_count_50 ?_
      refine bw_geti fg_BentWords_109 rfl dX11_count_53 ?_
      exact bw_ireturn dX11_count_56 rfl rfl ⟨_, rfl, h⟩
    | 3, _, hx =>
      replace h := h.2.2.2.1 (bw_ti hx (by decide))
      refine bw_aload_n (i := 0) dX11_count_57 rfl rfl ?_
      refine bw_getr (r := 37) fg_BentWords_77 rfl rfl dX11_count_58 ?_
      obtain ⟨Q1, hr, h⟩ := h
      refine bw_cVi (As := []) (st := []) cv_BentWords_342 rfl rfl hr rfl rfl (Nat.le_of_ble_eq_true rfl) dX11_count_61 (fun v2 w3 hv => ?_)
      replace h := h v2 w3 hv
      clear hr
      exact bw_ireturn dX11_count_64 rfl rfl ⟨_, rfl, h⟩
    | 4, _, hx =>
      replace h := h.2.2.2.2.1 (bw_ti hx (by decide))
      refine bw_aload_n (i := 0) dX11_count_65 rfl rfl ?_
      refine bw_getr (r := 37) fg_BentWords_77 rfl rfl dX11_count_66 ?_
      refine bw_geti fg_BentWords_336 rfl dX11_count_69 ?_
      exact bw_ireturn dX11_count_72 rfl rfl ⟨_, rfl, h⟩
    | j + 5, hj, _ => exact absurd hj (by simp)
  · replace h := h.2.2.2.2.2 hx
    refine bw_ldcw ki_BentWords_345 dX11_count_73 ?_
    exact bw_ireturn dX11_count_76 rfl rfl ⟨_, rfl, h⟩
theorem wfX11_lettersOrOne {E : bw_E} {d : Nat} {w : bw_W} {Q : Int32 → bw_W → Prop} {a0 : Int64} {a1 : Int32}  (h : (∃ Q1 : Int32 → bw_W → Prop, bw_ri E (d + 1) mX11_lettersOf [.long a0] w Q1 ∧ ∀ v2 w3, Q1 v2 w3 →
((¬ a1 = (-1) → ((a1 < 0 → Q (-1) w3) ∧ (¬ (a1 < 0) → ((v2 ≤ a1 → Q (-1) w3) ∧ (¬ (v2 ≤ a1) → (∃ Q4 : Int32 → bw_W → Prop, bw_ri E (d + 1) mX11_letterOf [.long a0, .int a1] w3 Q4 ∧ ∀ v5 w6, Q4 v5 w6 →
Q v5 w6)))))) ∧ (a1 = (-1) → Q v2 w3)))) : bw_ri E (d + 2) mX11_lettersOrOne [.long a0, .int a1] w Q := by
  refine bw_enter rfl (Nat.le_of_ble_eq_true rfl) ?_
  refine bw_lload_n (i := 0) dX11_lettersOrOne_0 rfl rfl ?_
  obtain ⟨Q1, hr, h⟩ := h
  refine bw_cSi (As := [.long a0]) (st := []) cs_BentWords_193 hr rfl rfl (Nat.le_of_ble_eq_true rfl) dX11_lettersOrOne_1 (fun v2 w3 hv => ?_)
  replace h := h v2 w3 hv
  clear hr
  refine bw_istore_n (i := 3) (L' := [some (.long a0), none, some (.int a1), some (.int v2)]) dX11_lettersOrOne_4 rfl (Nat.le_of_ble_eq_true rfl) rfl ?_
  refine bw_iload_n (i := 2) dX11_lettersOrOne_5 rfl rfl ?_
  refine bw_iconst (v := (-1)) dX11_lettersOrOne_6 (by decide) ?_
  refine bw_icmp_ne (tgt := 12) dX11_lettersOrOne_7 (by decide) (fun c => ?_) (fun c => ?_)
  · replace h := h.1 (c)
    refine bw_iload_n (i := 2) dX11_lettersOrOne_12 rfl rfl ?_
    refine bw_if_lt (tgt := 29) dX11_lettersOrOne_13 (by decide) (fun c => ?_) (fun c => ?_)
    · replace h := h.1 (c)
      refine bw_iconst (v := (-1)) dX11_lettersOrOne_29 (by decide) ?_
      exact bw_ireturn dX11_lettersOrOne_30 rfl rfl ⟨_, rfl, h⟩
    · replace h := h.2 (c)
      refine bw_iload_n (i := 2) dX11_lettersOrOne_16 rfl rfl ?_
      refine bw_iload_n (i := 3) dX11_lettersOrOne_17 rfl rfl ?_
      refine bw_icmp_ge (tgt := 29) dX11_lettersOrOne_18 (by decide) (fun c => ?_) (fun c => ?_)
      · replace h := h.1 (c)
        refine bw_iconst (v := (-1)) dX11_lettersOrOne_29 (by decide) ?_
        exact bw_ireturn dX11_lettersOrOne_30 rfl rfl ⟨_, rfl, h⟩
      · replace h := h.2 (c)
        refine bw_lload_n (i := 0) dX11_lettersOrOne_21 rfl rfl ?_
        refine bw_iload_n (i := 2) dX11_lettersOrOne_22 rfl rfl ?_
        obtain ⟨Q4, hr, h⟩ := h
        refine bw_cSi (As := [.long a0, .int a1]) (st := []) cs_BentWords_433 hr rfl rfl (Nat.le_of_ble_eq_true rfl) dX11_lettersOrOne_23 (fun v5 w6 hv => ?_)
        replace h := h v5 w6 hv
        clear hr
        refine bw_goto (tgt := 30) dX11_lettersOrOne_26 (by decide) ?_
        exact bw_ireturn dX11_lettersOrOne_30 rfl rfl ⟨_, rfl, h⟩
  · replace h := h.2 (c)
    refine bw_iload_n (i := 3) dX11_lettersOrOne_10 rfl rfl ?_
    exact bw_ireturn dX11_lettersOrOne_11 rfl rfl ⟨_, rfl, h⟩
theorem wfX12_next_0 {E : bw_E} {d : Nat} {w : bw_W} {Q : bw_W → Prop}   (h : (∃ Q1 : Int32 → bw_W → Prop, bw_ri E (d + 1) mX12_here [.ref 50] w Q1 ∧ ∀ v2 w3, Q1 v2 w3 →
((¬ v2 = 32 → (∃ Q4 : Int32 → bw_W → Prop, bw_ri E (d + 1) mX12_here [.ref 50] (sw_i w3 50 5 (gw_i w3 50 3)) Q4 ∧ ∀ v5 w6, Q4 v5 w6 →
((¬ v5 = (-1) → (∃ Q7 : Bool → bw_W → Prop, bw_rb E (d + 1) mX12_isLetter [.int v5] w6 Q7 ∧ ∀ v8 w9, Q7 v8 w9 →
((v8 = false → (∃ Q10 : Bool → bw_W → Prop, bw_rb E (d + 1) mX12_isDigit [.int v5] w9 Q10 ∧ ∀ v11 w12, Q10 v11 w12 →
((v11 = false → Q (sw_i (sw_i (sw_i w12 50 3 ((gw_i w12 50 3) + 1)) 50 4 3) 50 8 v5)) ∧ (v11 = true → (∃ Q13 : bw_W → Prop, bw_rv E (d + 1) mX12_readNumber [.ref 50] w12 Q13 ∧ ∀ w15, Q13 w15 →
Q w15))))) ∧ (v8 = true → (∃ Q16 : bw_W → Prop, bw_rv E (d + 1) mX12_readWord [.ref 50] w9 Q16 ∧ ∀ w18, Q16 w18 →
Q w18))))) ∧ (v5 = (-1) → Q (sw_i w6 50 4 0))))) ∧ (v2 = 32 → bw_G E (d + 2) mX12_next 0 [some (.ref 50), none] [] (sw_i w3 50 3 ((gw_i w3 50 3) + 1)) (bw_qv Q))))) : bw_G E (d + 2) mX12_next 0 [some (.ref 50), none] [] w (bw_qv Q) := by
  refine bw_aload_n (i := 0) dX12_next_0 rfl rfl ?_
  obtain ⟨Q1, hr, h⟩ := h
  refine bw_cVi (As := []) (st := []) cv_BentWordsModel_114 rfl rfl hr rfl rfl (Nat.le_of_ble_eq_true rfl) dX12_next_1 (fun v2 w3 hv => ?_)
  replace h := h v2 w3 hv
  clear hr
  refine bw_bipush (v := 32) dX12_next_4 (by decide) ?_
  refine bw_icmp_ne (tgt := 22) dX12_next_6 (by decide) (fun c => ?_) (fun c => ?_)
  · replace h := h.1 (c)
    refine bw_aload_n (i := 0) dX12_next_22 rfl rfl ?_
    refine bw_aload_n (i := 0) dX12_next_23 rfl rfl ?_
    refine bw_geti fg_BentWordsModel_104 rfl dX12_next_24 ?_
    refine bw_puti fp_BentWordsModel_138 rfl rfl rfl dX12_next_27 ?_
    refine bw_aload_n (i := 0) dX12_next_30 rfl rfl ?_
    obtain ⟨Q4, hr, h⟩ := h
    refine bw_cVi (As := []) (st := []) cv_BentWordsModel_114 rfl rfl hr rfl rfl (Nat.le_of_ble_eq_true rfl) dX12_next_31 (fun v5 w6 hv => ?_)
    replace h := h v5 w6 hv
    clear hr
    refine bw_istore_n (i := 1) (L' := [some (.ref 50), some (.int v5)]) dX12_next_34 rfl (Nat.le_of_ble_eq_true rfl) rfl ?_
    refine bw_iload_n (i := 1) dX12_next_35 rfl rfl ?_
    refine bw_iconst (v := (-1)) dX12_next_36 (by decide) ?_
    refine bw_icmp_ne (tgt := 48) dX12_next_37 (by decide) (fun c => ?_) (fun c => ?_)
    · replace h := h.1 (c)
      refine bw_iload_n (i := 1) dX12_next_48 rfl rfl ?_
      obtain ⟨Q7, hr, h⟩ := h
      refine bw_cSb (As := [.int v5]) (st := []) cs_BentWordsModel_118 hr rfl rfl (Nat.le_of_ble_eq_true rfl) dX12_next_49 (fun v8 w9 hv => ?_)
      replace h := h v8 w9 hv
      clear hr
      refine bw_ifb_eq (tgt := 62) dX12_next_52 (by decide) (fun c => ?_) (fun c => ?_)
      · replace h := h.1 (c)
        refine bw_iload_n (i := 1) dX12_next_62 rfl rfl ?_
        obtain ⟨Q10, hr, h⟩ := h
        refine bw_cSb (As := [.int v5]) (st := []) cs_BentWordsModel_135 hr rfl rfl (Nat.le_of_ble_eq_true rfl) dX12_next_63 (fun v11 w12 hv => ?_)
        replace h := h v11 w12 hv
        clear hr
        refine bw_ifb_eq (tgt := 76) dX12_next_66 (by decide) (fun c => ?_) (fun c => ?_)
        · replace h := h.1 (c)
          refine bw_aload_n (i := 0) dX12_next_76 rfl rfl ?_
          refine bw_dup dX12_next_77 rfl ?_
          refine bw_geti fg_BentWordsModel_104 rfl dX12_next_78 ?_
          refine bw_iconst (v := 1) dX12_next_81 (by decide) ?_
          refine bw_iadd dX12_next_82 ?_
          refine bw_puti fp_BentWordsModel_104 rfl rfl rfl dX12_next_83 ?_
          refine bw_aload_n (i := 0) dX12_next_86 rfl rfl ?_
          refine bw_iconst (v := 3) dX12_next_87 (by decide) ?_
          refine bw_puti fp_BentWordsModel_126 rfl rfl rfl dX12_next_88 ?_
          refine bw_aload_n (i := 0) dX12_next_91 rfl rfl ?_
          refine bw_iload_n (i := 1) dX12_next_92 rfl rfl ?_
          refine bw_puti fp_BentWordsModel_147 rfl rfl rfl dX12_next_93 ?_
          exact bw_return dX12_next_96 rfl ⟨rfl, h⟩
        · replace h := h.2 (c)
          refine bw_aload_n (i := 0) dX12_next_69 rfl rfl ?_
          obtain ⟨Q13, hr, h⟩ := h
          refine bw_cVv (As := []) (st := []) cv_BentWordsModel_144 rfl rfl hr rfl rfl (Nat.le_of_ble_eq_true rfl) dX12_next_70 (fun w15 hv => ?_)
          replace h := h w15 hv
          clear hr
          refine bw_goto (tgt := 96) dX12_next_73 (by decide) ?_
          exact bw_return dX12_next_96 rfl ⟨rfl, h⟩
      · replace h := h.2 (c)
        refine bw_aload_n (i := 0) dX12_next_55 rfl rfl ?_
        obtain ⟨Q16, hr, h⟩ := h
        refine bw_cVv (As := []) (st := []) cv_BentWordsModel_141 rfl rfl hr rfl rfl (Nat.le_of_ble_eq_true rfl) dX12_next_56 (fun w18 hv => ?_)
        replace h := h w18 hv
        clear hr
        refine bw_goto (tgt := 96) dX12_next_59 (by decide) ?_
        exact bw_return dX12_next_96 rfl ⟨rfl, h⟩
    · replace h := h.2 (c)
      refine bw_aload_n (i := 0) dX12_next_40 rfl rfl ?_
      refine bw_iconst (v := 0) dX12_next_41 (by decide) ?_
      refine bw_puti fp_BentWordsModel_126 rfl rfl rfl dX12_next_42 ?_
      refine bw_goto (tgt := 96) dX12_next_45 (by decide) ?_
      exact bw_return dX12_next_96 rfl ⟨rfl, h⟩
  · replace h := h.2 (c)
    refine bw_aload_n (i := 0) dX12_next_9 rfl rfl ?_
    refine bw_dup dX12_next_10 rfl ?_
    refine bw_geti fg_BentWordsModel_104 rfl dX12_next_11 ?_
    refine bw_iconst (v := 1) dX12_next_14 (by decide) ?_
    refine bw_iadd dX12_next_15 ?_
    refine bw_puti fp_BentWordsModel_104 rfl rfl rfl dX12_next_16 ?_
    refine bw_goto (tgt := 0) dX12_next_19 (by decide) ?_
    exact h
theorem wfX12_next {E : bw_E} {d : Nat} {w : bw_W} {Q : bw_W → Prop}   (h : bw_G E (d + 2) mX12_next 0 [some (.ref 50), none] [] w (bw_qv Q)) : bw_rv E (d + 2) mX12_next [.ref 50] w Q := by
  refine bw_enter rfl (Nat.le_of_ble_eq_true rfl) ?_
  exact h
theorem wfX12_nounHere_2 {E : bw_E} {d : Nat} {w : bw_W} {Q : Int32 → bw_W → Prop} {l1 : Int32}  (h : (((gw_i w 50 20) ≤ l1 → Q (-1) w) ∧ (¬ ((gw_i w 50 20) ≤ l1) → (vp_in l1 6) ∧
(∃ Q2 : Bool → bw_W → Prop, bw_rb E (d + 1) mX12_isWord [.ref 50, .long (gw_l w 52 (l1.toNatClampNeg))] w Q2 ∧ ∀ v3 w4, Q2 v3 w4 →
((v3 = false → bw_G E (d + 2) mX12_nounHere 2 [some (.ref 50), some (.int (l1 + 1))] [] w4 (bw_qi Q)) ∧ (v3 = true → Q l1 w4)))))) : bw_G E (d + 2) mX12_nounHere 2 [some (.ref 50), some (.int l1)] [] w (bw_qi Q) := by
  refine bw_iload_n (i := 1) dX12_nounHere_2 rfl rfl ?_
  refine bw_aload_n (i := 0) dX12_nounHere_3 rfl rfl ?_
  refine bw_geti fg_BentWordsModel_174 rfl dX12_nounHere_4 ?_
  refine bw_icmp_ge (tgt := 31) dX12_nounHere_7 (by decide) (fun c => ?_) (fun c => ?_)
  · replace h := h.1 (c)
    refine bw_iconst (v := (-1)) dX12_nounHere_31 (by decide) ?_
    exact bw_ireturn dX12_nounHere_32 rfl rfl ⟨_, rfl, h⟩
  · replace h := h.2 (c)
    refine bw_aload_n (i := 0) dX12_nounHere_10 rfl rfl ?_
    refine bw_aload_n (i := 0) dX12_nounHere_11 rfl rfl ?_
    refine bw_getr (r := 52) fg_BentWordsModel_13 rfl rfl dX12_nounHere_12 ?_
    refine bw_iload_n (i := 1) dX12_nounHere_15 rfl rfl ?_
    obtain ⟨hi1, h⟩ := h
    refine bw_laload rfl hi1 dX12_nounHere_16 ?_
    obtain ⟨Q2, hr, h⟩ := h
    refine bw_cVb (As := [.long (gw_l w 52 (l1.toNatClampNeg))]) (st := []) cv_BentWordsModel_177 rfl rfl hr rfl rfl (Nat.le_of_ble_eq_true rfl) dX12_nounHere_17 (fun v3 w4 hv => ?_)
    replace h := h v3 w4 hv
    clear hr
    refine bw_ifb_eq (tgt := 25) dX12_nounHere_20 (by decide) (fun c => ?_) (fun c => ?_)
    · replace h := h.1 (c)
      refine bw_iinc (i := 1) (x := l1) (v := (l1 + 1)) (L' := [some (.ref 50), some (.int (l1 + 1))]) dX12_nounHere_25 rfl rfl (Nat.le_of_ble_eq_true rfl) rfl ?_
      refine bw_goto (tgt := 2) dX12_nounHere_28 (by decide) ?_
      exact h
    · replace h := h.2 (c)
      refine bw_iload_n (i := 1) dX12_nounHere_23 rfl rfl ?_
      exact bw_ireturn dX12_nounHere_24 rfl rfl ⟨_, rfl, h⟩
theorem wfX12_nounHere {E : bw_E} {d : Nat} {w : bw_W} {Q : Int32 → bw_W → Prop}   (h : bw_G E (d + 2) mX12_nounHere 2 [some (.ref 50), some (.int 0)] [] w (bw_qi Q)) : bw_ri E (d + 2) mX12_nounHere [.ref 50] w Q := by
  refine bw_enter rfl (Nat.le_of_ble_eq_true rfl) ?_
  refine bw_iconst (v := 0) dX12_nounHere_0 (by decide) ?_
  refine bw_istore_n (i := 1) (L' := [some (.ref 50), some (.int 0)]) dX12_nounHere_1 rfl (Nat.le_of_ble_eq_true rfl) rfl ?_
  exact h
theorem wfX12_isTitleHere_2 {E : bw_E} {d : Nat} {w : bw_W} {Q : Bool → bw_W → Prop} {l1 : Int32}  (h : (((gw_i w 50 21) ≤ l1 → Q false w) ∧ (¬ ((gw_i w 50 21) ≤ l1) → (vp_in l1 4) ∧
(∃ Q2 : Bool → bw_W → Prop, bw_rb E (d + 1) mX12_isWord [.ref 50, .long (gw_l w 56 (l1.toNatClampNeg))] w Q2 ∧ ∀ v3 w4, Q2 v3 w4 →
((v3 = false → bw_G E (d + 2) mX12_isTitleHere 2 [some (.ref 50), some (.int (l1 + 1))] [] w4 (bw_qb Q)) ∧ (v3 = true → Q true w4)))))) : bw_G E (d + 2) mX12_isTitleHere 2 [some (.ref 50), some (.int l1)] [] w (bw_qb Q) := by
  refine bw_iload_n (i := 1) dX12_isTitleHere_2 rfl rfl ?_
  refine bw_aload_n (i := 0) dX12_isTitleHere_3 rfl rfl ?_
  refine bw_geti fg_BentWordsModel_181 rfl dX12_isTitleHere_4 ?_
  refine bw_icmp_ge (tgt := 31) dX12_isTitleHere_7 (by decide) (fun c => ?_) (fun c => ?_)
  · replace h := h.1 (c)
    refine bw_iconst (v := 0) dX12_isTitleHere_31 (by decide) ?_
    exact bw_ireturn dX12_isTitleHere_32 rfl (bw_nb false) ⟨false, rfl, h⟩
  · replace h := h.2 (c)
    refine bw_aload_n (i := 0) dX12_isTitleHere_10 rfl rfl ?_
    refine bw_aload_n (i := 0) dX12_isTitleHere_11 rfl rfl ?_
    refine bw_getr (r := 56) fg_BentWordsModel_26 rfl rfl dX12_isTitleHere_12 ?_
    refine bw_iload_n (i := 1) dX12_isTitleHere_15 rfl rfl ?_
    obtain ⟨hi1, h⟩ := h
    refine bw_laload rfl hi1 dX12_isTitleHere_16 ?_
    obtain ⟨Q2, hr, h⟩ := h
    refine bw_cVb (As := [.long (gw_l w 56 (l1.toNatClampNeg))]) (st := []) cv_BentWordsModel_177 rfl rfl hr rfl rfl (Nat.le_of_ble_eq_true rfl) dX12_isTitleHere_17 (fun v3 w4 hv => ?_)
    replace h := h v3 w4 hv
    clear hr
    refine bw_ifb_eq (tgt := 25) dX12_isTitleHere_20 (by decide) (fun c => ?_) (fun c => ?_)
    · replace h := h.1 (c)
      refine bw_iinc (i := 1) (x := l1) (v := (l1 + 1)) (L' := [some (.ref 50), some (.int (l1 + 1))]) dX12_isTitleHere_25 rfl rfl (Nat.le_of_ble_eq_true rfl) rfl ?_
      refine bw_goto (tgt := 2) dX12_isTitleHere_28 (by decide) ?_
      exact h
    · replace h := h.2 (c)
      refine bw_iconst (v := 1) dX12_isTitleHere_23 (by decide) ?_
      exact bw_ireturn dX12_isTitleHere_24 rfl (bw_nb true) ⟨true, rfl, h⟩
theorem wfX12_isTitleHere {E : bw_E} {d : Nat} {w : bw_W} {Q : Bool → bw_W → Prop}   (h : bw_G E (d + 2) mX12_isTitleHere 2 [some (.ref 50), some (.int 0)] [] w (bw_qb Q)) : bw_rb E (d + 2) mX12_isTitleHere [.ref 50] w Q := by
  refine bw_enter rfl (Nat.le_of_ble_eq_true rfl) ?_
  refine bw_iconst (v := 0) dX12_isTitleHere_0 (by decide) ?_
  refine bw_istore_n (i := 1) (L' := [some (.ref 50), some (.int 0)]) dX12_isTitleHere_1 rfl (Nat.le_of_ble_eq_true rfl) rfl ?_
  exact h
theorem wfX12_ends {E : bw_E} {d : Nat} {w : bw_W} {Q : Int32 → bw_W → Prop}   (h : ((¬ (gw_i w 50 10) = (-1) → Q (gw_i w 50 10) w) ∧ ((gw_i w 50 10) = (-1) → (((gw_i w 50 4) = 0 → Q (gw_i w 50 10) w) ∧ (¬ ((gw_i w 50 4) = 0) → (∃ Q1 : bw_W → Prop, bw_rv E (d + 1) mX12_bad [.ref 50] w Q1 ∧ ∀ w3, Q1 w3 →
Q (gw_i w3 50 10) w3)))))) : bw_ri E (d + 2) mX12_ends [.ref 50] w Q := by
  refine bw_enter rfl (Nat.le_of_ble_eq_true rfl) ?_
  refine bw_aload_n (i := 0) dX12_ends_0 rfl rfl ?_
  refine bw_geti fg_BentWordsModel_150 rfl dX12_ends_1 ?_
  refine bw_iconst (v := (-1)) dX12_ends_4 (by decide) ?_
  refine bw_icmp_ne (tgt := 19) dX12_ends_5 (by decide) (fun c => ?_) (fun c => ?_)
  · replace h := h.1 (c)
    refine bw_aload_n (i := 0) dX12_ends_19 rfl rfl ?_
    refine bw_geti fg_BentWordsModel_150 rfl dX12_ends_20 ?_
    exact bw_ireturn dX12_ends_23 rfl rfl ⟨_, rfl, h⟩
  · replace h := h.2 (c)
    refine bw_aload_n (i := 0) dX12_ends_8 rfl rfl ?_
    refine bw_geti fg_BentWordsModel_126 rfl dX12_ends_9 ?_
    refine bw_if_eq (tgt := 19) dX12_ends_12 (by decide) (fun c => ?_) (fun c => ?_)
    · replace h := h.1 (c)
      refine bw_aload_n (i := 0) dX12_ends_19 rfl rfl ?_
      refine bw_geti fg_BentWordsModel_150 rfl dX12_ends_20 ?_
      exact bw_ireturn dX12_ends_23 rfl rfl ⟨_, rfl, h⟩
    · replace h := h.2 (c)
      refine bw_aload_n (i := 0) dX12_ends_15 rfl rfl ?_
      obtain ⟨Q1, hr, h⟩ := h
      refine bw_cVv (As := []) (st := []) cv_BentWordsModel_167 rfl rfl hr rfl rfl (Nat.le_of_ble_eq_true rfl) dX12_ends_16 (fun w3 hv => ?_)
      replace h := h w3 hv
      clear hr
      refine bw_aload_n (i := 0) dX12_ends_19 rfl rfl ?_
      refine bw_geti fg_BentWordsModel_150 rfl dX12_ends_20 ?_
      exact bw_ireturn dX12_ends_23 rfl rfl ⟨_, rfl, h⟩
theorem wfX12_defaultOf {E : bw_E} {d : Nat} {w : bw_W} {Q : Int32 → bw_W → Prop} {a0 : Int32} {a1 : Int32} {a2 : Int32}  (h : (∃ Q1 : Int64 → bw_W → Prop, bw_rl E (d + 1) mX12_told [.ref 50, .int a0, .int a1, .int a2] w Q1 ∧ ∀ v2 w3, Q1 v2 w3 →
((v2 = 0 → (∃ Q4 : Int64 → bw_W → Prop, bw_rl E (d + 1) mX12_told [.ref 50, .int a0, .int 0, .int a2] w3 Q4 ∧ ∀ v5 w6, Q4 v5 w6 →
((v5 = 0 → (∃ Q7 : Int64 → bw_W → Prop, bw_rl E (d + 1) mX12_told [.ref 50, .int a0, .int a1, .int 0] w6 Q7 ∧ ∀ v8 w9, Q7 v8 w9 →
((v8 = 0 → (∃ Q10 : Int64 → bw_W → Prop, bw_rl E (d + 1) mX12_told [.ref 50, .int a0, .int 0, .int 0] w9 Q10 ∧ ∀ v11 w12, Q10 v11 w12 →
((v11 = 0 → Q 4 w12) ∧ (¬ v11 = 0 → Q 3 w12)))) ∧ (¬ v8 = 0 → Q 2 w9)))) ∧ (¬ v5 = 0 → Q 1 w6)))) ∧ (¬ v2 = 0 → Q 0 w3)))) : bw_ri E (d + 2) mX12_defaultOf [.ref 50, .int a0, .int a1, .int a2] w Q := by
  refine bw_enter rfl (Nat.le_of_ble_eq_true rfl) ?_
  refine bw_aload_n (i := 0) dX12_defaultOf_0 rfl rfl ?_
  refine bw_iload_n (i := 1) dX12_defaultOf_1 rfl rfl ?_
  refine bw_iload_n (i := 2) dX12_defaultOf_2 rfl rfl ?_
  refine bw_iload_n (i := 3) dX12_defaultOf_3 rfl rfl ?_
  obtain ⟨Q1, hr, h⟩ := h
  refine bw_cVl (As := [.int a0, .int a1, .int a2]) (st := []) cv_BentWordsModel_296 rfl rfl hr rfl rfl (Nat.le_of_ble_eq_true rfl) dX12_defaultOf_4 (fun v2 w3 hv => ?_)
  replace h := h v2 w3 hv
  clear hr
  refine bw_lconst (v := 0) dX12_defaultOf_7 rfl ?_
  refine bw_lcmp_eq (tgt := 14) dX12_defaultOf_8 dX12_defaultOf_9 (by decide) (fun c => ?_) (fun c => ?_)
  · replace h := h.1 (c)
    refine bw_aload_n (i := 0) dX12_defaultOf_14 rfl rfl ?_
    refine bw_iload_n (i := 1) dX12_defaultOf_15 rfl rfl ?_
    refine bw_iconst (v := 0) dX12_defaultOf_16 (by decide) ?_
    refine bw_iload_n (i := 3) dX12_defaultOf_17 rfl rfl ?_
    obtain ⟨Q4, hr, h⟩ := h
    refine bw_cVl (As := [.int a0, .int 0, .int a2]) (st := []) cv_BentWordsModel_296 rfl rfl hr rfl rfl (Nat.le_of_ble_eq_true rfl) dX12_defaultOf_18 (fun v5 w6 hv => ?_)
    replace h := h v5 w6 hv
    clear hr
    refine bw_lconst (v := 0) dX12_defaultOf_21 rfl ?_
    refine bw_lcmp_eq (tgt := 28) dX12_defaultOf_22 dX12_defaultOf_23 (by decide) (fun c => ?_) (fun c => ?_)
    · replace h := h.1 (c)
      refine bw_aload_n (i := 0) dX12_defaultOf_28 rfl rfl ?_
      refine bw_iload_n (i := 1) dX12_defaultOf_29 rfl rfl ?_
      refine bw_iload_n (i := 2) dX12_defaultOf_30 rfl rfl ?_
      refine bw_iconst (v := 0) dX12_defaultOf_31 (by decide) ?_
      obtain ⟨Q7, hr, h⟩ := h
      refine bw_cVl (As := [.int a0, .int a1, .int 0]) (st := []) cv_BentWordsModel_296 rfl rfl hr rfl rfl (Nat.le_of_ble_eq_true rfl) dX12_defaultOf_32 (fun v8 w9 hv => ?_)
      replace h := h v8 w9 hv
      clear hr
      refine bw_lconst (v := 0) dX12_defaultOf_35 rfl ?_
      refine bw_lcmp_eq (tgt := 42) dX12_defaultOf_36 dX12_defaultOf_37 (by decide) (fun c => ?_) (fun c => ?_)
      · replace h := h.1 (c)
        refine bw_aload_n (i := 0) dX12_defaultOf_42 rfl rfl ?_
        refine bw_iload_n (i := 1) dX12_defaultOf_43 rfl rfl ?_
        refine bw_iconst (v := 0) dX12_defaultOf_44 (by decide) ?_
        refine bw_iconst (v := 0) dX12_defaultOf_45 (by decide) ?_
        obtain ⟨Q10, hr, h⟩ := h
        refine bw_cVl (As := [.int a0, .int 0, .int 0]) (st := []) cv_BentWordsModel_296 rfl rfl hr rfl rfl (Nat.le_of_ble_eq_true rfl) dX12_defaultOf_46 (fun v11 w12 hv => ?_)
        replace h := h v11 w12 hv
        clear hr
        refine bw_lconst (v := 0) dX12_defaultOf_49 rfl ?_
        refine bw_lcmp_eq (tgt := 58) dX12_defaultOf_50 dX12_defaultOf_51 (by decide) (fun c => ?_) (fun c => ?_)
        · replace h := h.1 (c)
          refine bw_iconst (v := 4) dX12_defaultOf_58 (by decide) ?_
          exact bw_ireturn dX12_defaultOf_59 rfl rfl ⟨_, rfl, h⟩
        · replace h := h.2 (c)
          refine bw_iconst (v := 3) dX12_defaultOf_54 (by decide) ?_
          refine bw_goto (tgt := 59) dX12_defaultOf_55 (by decide) ?_
          exact bw_ireturn dX12_defaultOf_59 rfl rfl ⟨_, rfl, h⟩
      · replace h := h.2 (c)
        refine bw_iconst (v := 2) dX12_defaultOf_40 (by decide) ?_
        exact bw_ireturn dX12_defaultOf_41 rfl rfl ⟨_, rfl, h⟩
    · replace h := h.2 (c)
      refine bw_iconst (v := 1) dX12_defaultOf_26 (by decide) ?_
      exact bw_ireturn dX12_defaultOf_27 rfl rfl ⟨_, rfl, h⟩
  · replace h := h.2 (c)
    refine bw_iconst (v := 0) dX12_defaultOf_12 (by decide) ?_
    exact bw_ireturn dX12_defaultOf_13 rfl rfl ⟨_, rfl, h⟩
theorem wfX12_wordOf {E : bw_E} {d : Nat} {w : bw_W} {Q : Int64 → bw_W → Prop} {a0 : Bool} {a1 : Int32} {a2 : Int32} {a3 : Int32}  (h : (∃ Q1 : Int32 → bw_W → Prop, bw_ri E (d + 1) mX12_wordAt [.int (bw_b a0), .int a1, .int a2, .int a3] w Q1 ∧ ∀ v2 w3, Q1 v2 w3 →
(vp_in v2 48) ∧
(((gw_l w3 67 (v2.toNatClampNeg)) = 0 → (∃ Q5 : Int32 → bw_W → Prop, bw_ri E (d + 1) mX12_wordAt [.int (bw_b a0), .int a1, .int a2, .int 0] w3 Q5 ∧ ∀ v6 w7, Q5 v6 w7 →
(vp_in v6 48) ∧
Q (gw_l w7 67 (v6.toNatClampNeg)) w7)) ∧ (¬ (gw_l w3 67 (v2.toNatClampNeg)) = 0 → Q (gw_l w3 67 (v2.toNatClampNeg)) w3)))) : bw_rl E (d + 2) mX12_wordOf [.ref 50, .int (bw_b a0), .int a1, .int a2, .int a3] w Q := by
  refine bw_enter rfl (Nat.le_of_ble_eq_true rfl) ?_
  refine bw_aload_n (i := 0) dX12_wordOf_0 rfl rfl ?_
  refine bw_getr (r := 67) fg_BentWordsModel_59 rfl rfl dX12_wordOf_1 ?_
  refine bw_iload_n (i := 1) dX12_wordOf_4 rfl rfl ?_
  refine bw_iload_n (i := 2) dX12_wordOf_5 rfl rfl ?_
  refine bw_iload_n (i := 3) dX12_wordOf_6 rfl rfl ?_
  refine bw_iload dX12_wordOf_7 rfl ?_
  obtain ⟨Q1, hr, h⟩ := h
  refine bw_cSi (As := [.int (bw_b a0), .int a1, .int a2, .int a3]) (st := [.ref 67]) cs_BentWordsModel_198 hr rfl rfl (Nat.le_of_ble_eq_true rfl) dX12_wordOf_9 (fun v2 w3 hv => ?_)
  replace h := h v2 w3 hv
  clear hr
  obtain ⟨hi4, h⟩ := h
  refine bw_laload rfl hi4 dX12_wordOf_12 ?_
  refine bw_lstore (i := 5) (L' := [some (.ref 50), some (.int (bw_b a0)), some (.int a1), some (.int a2), some (.int a3), some (.long (gw_l w3 67 (v2.toNatClampNeg))), none]) dX12_wordOf_13 (Nat.le_of_ble_eq_true rfl) rfl ?_
  refine bw_lload dX12_wordOf_15 rfl ?_
  refine bw_lconst (v := 0) dX12_wordOf_17 rfl ?_
  refine bw_lcmp_eq (tgt := 27) dX12_wordOf_18 dX12_wordOf_19 (by decide) (fun c => ?_) (fun c => ?_)
  · replace h := h.1 (c)
    refine bw_aload_n (i := 0) dX12_wordOf_27 rfl rfl ?_
    refine bw_getr (r := 67) fg_BentWordsModel_59 rfl rfl dX12_wordOf_28 ?_
    refine bw_iload_n (i := 1) dX12_wordOf_31 rfl rfl ?_
    refine bw_iload_n (i := 2) dX12_wordOf_32 rfl rfl ?_
    refine bw_iload_n (i := 3) dX12_wordOf_33 rfl rfl ?_
    refine bw_iconst (v := 0) dX12_wordOf_34 (by decide) ?_
    obtain ⟨Q5, hr, h⟩ := h
    refine bw_cSi (As := [.int (bw_b a0), .int a1, .int a2, .int 0]) (st := [.ref 67]) cs_BentWordsModel_198 hr rfl rfl (Nat.le_of_ble_eq_true rfl) dX12_wordOf_35 (fun v6 w7 hv => ?_)
    replace h := h v6 w7 hv
    clear hr
    obtain ⟨hi8, h⟩ := h
    refine bw_laload rfl hi8 dX12_wordOf_38 ?_
    exact bw_lreturn dX12_wordOf_39 rfl ⟨_, rfl, h⟩
  · replace h := h.2 (c)
    refine bw_lload dX12_wordOf_22 rfl ?_
    refine bw_goto (tgt := 39) dX12_wordOf_24 (by decide) ?_
    exact bw_lreturn dX12_wordOf_39 rfl ⟨_, rfl, h⟩
theorem wfX12_isWordTold {E : bw_E} {d : Nat} {w : bw_W} {Q : Bool → bw_W → Prop} {a0 : Bool} {a1 : Int32} {a2 : Int32} {a3 : Int32}  (h : (∃ Q1 : Int32 → bw_W → Prop, bw_ri E (d + 1) mX12_wordAt [.int (bw_b a0), .int a1, .int a2, .int a3] w Q1 ∧ ∀ v2 w3, Q1 v2 w3 →
(vp_in v2 48) ∧
(((gw_l w3 67 (v2.toNatClampNeg)) = 0 → Q false w3) ∧ (¬ (gw_l w3 67 (v2.toNatClampNeg)) = 0 → Q true w3)))) : bw_rb E (d + 2) mX12_isWordTold [.ref 50, .int (bw_b a0), .int a1, .int a2, .int a3] w Q := by
  refine bw_enter rfl (Nat.le_of_ble_eq_true rfl) ?_
  refine bw_aload_n (i := 0) dX12_isWordTold_0 rfl rfl ?_
  refine bw_getr (r := 67) fg_BentWordsModel_59 rfl rfl dX12_isWordTold_1 ?_
  refine bw_iload_n (i := 1) dX12_isWordTold_4 rfl rfl ?_
  refine bw_iload_n (i := 2) dX12_isWordTold_5 rfl rfl ?_
  refine bw_iload_n (i := 3) dX12_isWordTold_6 rfl rfl ?_
  refine bw_iload dX12_isWordTold_7 rfl ?_
  obtain ⟨Q1, hr, h⟩ := h
  refine bw_cSi (As := [.int (bw_b a0), .int a1, .int a2, .int a3]) (st := [.ref 67]) cs_BentWordsModel_198 hr rfl rfl (Nat.le_of_ble_eq_true rfl) dX12_isWordTold_9 (fun v2 w3 hv => ?_)
  replace h := h v2 w3 hv
  clear hr
  obtain ⟨hi4, h⟩ := h
  refine bw_laload rfl hi4 dX12_isWordTold_12 ?_
  refine bw_lconst (v := 0) dX12_isWordTold_13 rfl ?_
  refine bw_lcmp_eq (tgt := 22) dX12_isWordTold_14 dX12_isWordTold_15 (by decide) (fun c => ?_) (fun c => ?_)
  · replace h := h.1 (c)
    refine bw_iconst (v := 0) dX12_isWordTold_22 (by decide) ?_
    exact bw_ireturn dX12_isWordTold_23 rfl (bw_nb false) ⟨false, rfl, h⟩
  · replace h := h.2 (c)
    refine bw_iconst (v := 1) dX12_isWordTold_18 (by decide) ?_
    refine bw_goto (tgt := 23) dX12_isWordTold_19 (by decide) ?_
    exact bw_ireturn dX12_isWordTold_23 rfl (bw_nb true) ⟨true, rfl, h⟩
theorem wfX12_saysWord_19 {E : bw_E} {d : Nat} {w : bw_W} {Q : bw_W → Prop} {l1 : Int64} {l3 : Int32} {l4 : Int32}  (h : ((l3 ≤ l4 → Q w) ∧ (¬ (l3 ≤ l4) → (∃ Q1 : Int32 → bw_W → Prop, bw_ri E (d + 1) mX12_letterOf [.long l1, .int l4] w Q1 ∧ ∀ v2 w3, Q1 v2 w3 →
(∃ Q4 : bw_W → Prop, bw_rv E (d + 1) mX12_says [.ref 50, .int v2] w3 Q4 ∧ ∀ w6, Q4 w6 →
bw_G E (d + 2) mX12_saysWord 19 [some (.ref 50), some (.long l1), none, some (.int l3), some (.int (l4 + 1))] [] w6 (bw_qv Q)))))) : bw_G E (d + 2) mX12_saysWord 19 [some (.ref 50), some (.long l1), none, some (.int l3), some (.int l4)] [] w (bw_qv Q) := by
  refine bw_iload dX12_saysWord_19 rfl ?_
  refine bw_iload_n (i := 3) dX12_saysWord_21 rfl rfl ?_
  refine bw_icmp_ge (tgt := 41) dX12_saysWord_22 (by decide) (fun c => ?_) (fun c => ?_)
  · replace h := h.1 (c)
    exact bw_return dX12_saysWord_41 rfl ⟨rfl, h⟩
  · replace h := h.2 (c)
    refine bw_aload_n (i := 0) dX12_saysWord_25 rfl rfl ?_
    refine bw_lload_n (i := 1) dX12_saysWord_26 rfl rfl ?_
    refine bw_iload dX12_saysWord_27 rfl ?_
    obtain ⟨Q1, hr, h⟩ := h
    refine bw_cSi (As := [.long l1, .int l4]) (st := [.ref 50]) cs_BentWordsModel_317 hr rfl rfl (Nat.le_of_ble_eq_true rfl) dX12_saysWord_29 (fun v2 w3 hv => ?_)
    replace h := h v2 w3 hv
    clear hr
    obtain ⟨Q4, hr, h⟩ := h
    refine bw_cVv (As := [.int v2]) (st := []) cv_BentWordsModel_311 rfl rfl hr rfl rfl (Nat.le_of_ble_eq_true rfl) dX12_saysWord_32 (fun w6 hv => ?_)
    replace h := h w6 hv
    clear hr
    refine bw_iinc (i := 4) (x := l4) (v := (l4 + 1)) (L' := [some (.ref 50), some (.long l1), none, some (.int l3), some (.int (l4 + 1))]) dX12_saysWord_35 rfl rfl (Nat.le_of_ble_eq_true rfl) rfl ?_
    refine bw_goto (tgt := 19) dX12_saysWord_38 (by decide) ?_
    exact h
theorem wfX12_saysWord {E : bw_E} {d : Nat} {w : bw_W} {Q : bw_W → Prop} {a0 : Int64}  (h : ((¬ a0 = 0 → (∃ Q1 : bw_W → Prop, bw_rv E (d + 1) mX12_gap [.ref 50] w Q1 ∧ ∀ w3, Q1 w3 →
(∃ Q4 : Int32 → bw_W → Prop, bw_ri E (d + 1) mX12_lettersOf [.long a0] w3 Q4 ∧ ∀ v5 w6, Q4 v5 w6 →
bw_G E (d + 2) mX12_saysWord 19 [some (.ref 50), some (.long a0), none, some (.int v5), some (.int 0)] [] w6 (bw_qv Q)))) ∧ (a0 = 0 → Q w))) : bw_rv E (d + 2) mX12_saysWord [.ref 50, .long a0] w Q := by
  refine bw_enter rfl (Nat.le_of_ble_eq_true rfl) ?_
  refine bw_lload_n (i := 1) dX12_saysWord_0 rfl rfl ?_
  refine bw_lconst (v := 0) dX12_saysWord_1 rfl ?_
  refine bw_lcmp_ne (tgt := 7) dX12_saysWord_2 dX12_saysWord_3 (by decide) (fun c => ?_) (fun c => ?_)
  · replace h := h.1 (c)
    refine bw_aload_n (i := 0) dX12_saysWord_7 rfl rfl ?_
    obtain ⟨Q1, hr, h⟩ := h
    refine bw_cVv (As := []) (st := []) cv_BentWordsModel_314 rfl rfl hr rfl rfl (Nat.le_of_ble_eq_true rfl) dX12_saysWord_8 (fun w3 hv => ?_)
    replace h := h w3 hv
    clear hr
    refine bw_lload_n (i := 1) dX12_saysWord_11 rfl rfl ?_
    obtain ⟨Q4, hr, h⟩ := h
    refine bw_cSi (As := [.long a0]) (st := []) cs_BentWordsModel_304 hr rfl rfl (Nat.le_of_ble_eq_true rfl) dX12_saysWord_12 (fun v5 w6 hv => ?_)
    replace h := h v5 w6 hv
    clear hr
    refine bw_istore_n (i := 3) (L' := [some (.ref 50), some (.long a0), none, some (.int v5), none]) dX12_saysWord_15 rfl (Nat.le_of_ble_eq_true rfl) rfl ?_
    refine bw_iconst (v := 0) dX12_saysWord_16 (by decide) ?_
    refine bw_istore (i := 4) (L' := [some (.ref 50), some (.long a0), none, some (.int v5), some (.int 0)]) dX12_saysWord_17 (Nat.le_of_ble_eq_true rfl) rfl ?_
    exact h
  · replace h := h.2 (c)
    exact bw_return dX12_saysWord_6 rfl ⟨rfl, h⟩
theorem wfX12_saysCount {E : bw_E} {d : Nat} {w : bw_W} {Q : bw_W → Prop} {a0 : Int32}  (h : (∃ Q1 : bw_W → Prop, bw_rv E (d + 1) mX12_gap [.ref 50] w Q1 ∧ ∀ w3, Q1 w3 →
((a0 ≤ 9 → (∃ Q4 : bw_W → Prop, bw_rv E (d + 1) mX12_says [.ref 50, .int (48 + (a0 - a0 / 10 * 10))] w3 Q4 ∧ ∀ w6, Q4 w6 →
Q w6)) ∧ (¬ (a0 ≤ 9) → (∃ Q7 : bw_W → Prop, bw_rv E (d + 1) mX12_says [.ref 50, .int (48 + (a0 / 10))] w3 Q7 ∧ ∀ w9, Q7 w9 →
(∃ Q10 : bw_W → Prop, bw_rv E (d + 1) mX12_says [.ref 50, .int (48 + (a0 - a0 / 10 * 10))] w9 Q10 ∧ ∀ w12, Q10 w12 →
Q w12)))))) : bw_rv E (d + 2) mX12_saysCount [.ref 50, .int a0] w Q := by
  refine bw_enter rfl (Nat.le_of_ble_eq_true rfl) ?_
  refine bw_aload_n (i := 0) dX12_saysCount_0 rfl rfl ?_
  obtain ⟨Q1, hr, h⟩ := h
  refine bw_cVv (As := []) (st := []) cv_BentWordsModel_314 rfl rfl hr rfl rfl (Nat.le_of_ble_eq_true rfl) dX12_saysCount_1 (fun w3 hv => ?_)
  replace h := h w3 hv
  clear hr
  refine bw_iload_n (i := 1) dX12_saysCount_4 rfl rfl ?_
  refine bw_bipush (v := 9) dX12_saysCount_5 (by decide) ?_
  refine bw_icmp_le (tgt := 21) dX12_saysCount_7 (by decide) (fun c => ?_) (fun c => ?_)
  · replace h := h.1 (c)
    refine bw_aload_n (i := 0) dX12_saysCount_21 rfl rfl ?_
    refine bw_bipush (v := 48) dX12_saysCount_22 (by decide) ?_
    refine bw_iload_n (i := 1) dX12_saysCount_24 rfl rfl ?_
    refine bw_bipush (v := 10) dX12_saysCount_25 (by decide) ?_
    refine bw_irem dX12_saysCount_27 (by decide) ?_
    refine bw_iadd dX12_saysCount_28 ?_
    obtain ⟨Q4, hr, h⟩ := h
    refine bw_cVv (As := [.int (48 + (a0 - a0 / 10 * 10))]) (st := []) cv_BentWordsModel_311 rfl rfl hr rfl rfl (Nat.le_of_ble_eq_true rfl) dX12_saysCount_29 (fun w6 hv => ?_)
    replace h := h w6 hv
    clear hr
    exact bw_return dX12_saysCount_32 rfl ⟨rfl, h⟩
  · replace h := h.2 (c)
    refine bw_aload_n (i := 0) dX12_saysCount_10 rfl rfl ?_
    refine bw_bipush (v := 48) dX12_saysCount_11 (by decide) ?_
    refine bw_iload_n (i := 1) dX12_saysCount_13 rfl rfl ?_
    refine bw_bipush (v := 10) dX12_saysCount_14 (by decide) ?_
    refine bw_idiv dX12_saysCount_16 (by decide) ?_
    refine bw_iadd dX12_saysCount_17 ?_
    obtain ⟨Q7, hr, h⟩ := h
    refine bw_cVv (As := [.int (48 + (a0 / 10))]) (st := []) cv_BentWordsModel_311 rfl rfl hr rfl rfl (Nat.le_of_ble_eq_true rfl) dX12_saysCount_18 (fun w9 hv => ?_)
    replace h := h w9 hv
    clear hr
    refine bw_aload_n (i := 0) dX12_saysCount_21 rfl rfl ?_
    refine bw_bipush (v := 48) dX12_saysCount_22 (by decide) ?_
    refine bw_iload_n (i := 1) dX12_saysCount_24 rfl rfl ?_
    refine bw_bipush (v := 10) dX12_saysCount_25 (by decide) ?_
    refine bw_irem dX12_saysCount_27 (by decide) ?_
    refine bw_iadd dX12_saysCount_28 ?_
    obtain ⟨Q10, hr, h⟩ := h
    refine bw_cVv (As := [.int (48 + (a0 - a0 / 10 * 10))]) (st := []) cv_BentWordsModel_311 rfl rfl hr rfl rfl (Nat.le_of_ble_eq_true rfl) dX12_saysCount_29 (fun w12 hv => ?_)
    replace h := h w12 hv
    clear hr
    exact bw_return dX12_saysCount_32 rfl ⟨rfl, h⟩
theorem wfX12_whyFill {E : bw_E} {d : Nat} {w : bw_W} {Q : Int32 → bw_W → Prop} {a0 : Int32} {a1 : Int32} {a2 : Int32}  (h : (∃ Q1 : Bool → bw_W → Prop, bw_rb E (d + 1) mX12_isHole [.ref 50, .int a0] w Q1 ∧ ∀ v2 w3, Q1 v2 w3 →
((v2 = false → Q 0 w3) ∧ (v2 = true → (∃ Q4 : Bool → bw_W → Prop, bw_rb E (d + 1) mX12_isNoun [.ref 50, .int a1] w3 Q4 ∧ ∀ v5 w6, Q4 v5 w6 →
((v5 = true → (∃ Q7 : Bool → bw_W → Prop, bw_rb E (d + 1) mX12_in [.int a2, .int 0, .int 99] w6 Q7 ∧ ∀ v8 w9, Q7 v8 w9 →
((v8 = true → (∃ Q10 : Int32 → bw_W → Prop, bw_ri E (d + 1) mX12_nounIn [.ref 50, .int a0] w9 Q10 ∧ ∀ v11 w12, Q10 v11 w12 →
((¬ v11 = a1 → Q (-1) w12) ∧ (v11 = a1 → (∃ Q13 : Int32 → bw_W → Prop, bw_ri E (d + 1) mX12_countIn [.ref 50, .int a0] w12 Q13 ∧ ∀ v14 w15, Q13 v14 w15 →
((¬ v14 = a2 → Q (-1) w15) ∧ (v14 = a2 → Q 2 w15))))))) ∧ (v8 = false → Q 1 w9)))) ∧ (v5 = false → Q 0 w6))))))) : bw_ri E (d + 2) mX12_whyFill [.ref 50, .int a0, .int a1, .int a2] w Q := by
  refine bw_enter rfl (Nat.le_of_ble_eq_true rfl) ?_
  refine bw_aload_n (i := 0) dX12_whyFill_0 rfl rfl ?_
  refine bw_iload_n (i := 1) dX12_whyFill_1 rfl rfl ?_
  obtain ⟨Q1, hr, h⟩ := h
  refine bw_cVb (As := [.int a0]) (st := []) cv_BentWordsModel_373 rfl rfl hr rfl rfl (Nat.le_of_ble_eq_true rfl) dX12_whyFill_2 (fun v2 w3 hv => ?_)
  replace h := h v2 w3 hv
  clear hr
  refine bw_ifb_eq (tgt := 16) dX12_whyFill_5 (by decide) (fun c => ?_) (fun c => ?_)
  · replace h := h.1 (c)
    refine bw_iconst (v := 0) dX12_whyFill_16 (by decide) ?_
    exact bw_ireturn dX12_whyFill_17 rfl rfl ⟨_, rfl, h⟩
  · replace h := h.2 (c)
    refine bw_aload_n (i := 0) dX12_whyFill_8 rfl rfl ?_
    refine bw_iload_n (i := 2) dX12_whyFill_9 rfl rfl ?_
    obtain ⟨Q4, hr, h⟩ := h
    refine bw_cVb (As := [.int a1]) (st := []) cv_BentWordsModel_376 rfl rfl hr rfl rfl (Nat.le_of_ble_eq_true rfl) dX12_whyFill_10 (fun v5 w6 hv => ?_)
    replace h := h v5 w6 hv
    clear hr
    refine bw_ifb_ne (tgt := 18) dX12_whyFill_13 (by decide) (fun c => ?_) (fun c => ?_)
    · replace h := h.1 (c)
      refine bw_iload_n (i := 3) dX12_whyFill_18 rfl rfl ?_
      refine bw_iconst (v := 0) dX12_whyFill_19 (by decide) ?_
      refine bw_bipush (v := 99) dX12_whyFill_20 (by decide) ?_
      obtain ⟨Q7, hr, h⟩ := h
      refine bw_cSb (As := [.int a2, .int 0, .int 99]) (st := []) cs_BentWordsModel_100 hr rfl rfl (Nat.le_of_ble_eq_true rfl) dX12_whyFill_22 (fun v8 w9 hv => ?_)
      replace h := h v8 w9 hv
      clear hr
      refine bw_ifb_ne (tgt := 32) dX12_whyFill_25 (by decide) (fun c => ?_) (fun c => ?_)
      · replace h := h.1 (c)
        refine bw_aload_n (i := 0) dX12_whyFill_32 rfl rfl ?_
        refine bw_iload_n (i := 1) dX12_whyFill_33 rfl rfl ?_
        obtain ⟨Q10, hr, h⟩ := h
        refine bw_cVi (As := [.int a0]) (st := []) cv_BentWordsModel_330 rfl rfl hr rfl rfl (Nat.le_of_ble_eq_true rfl) dX12_whyFill_34 (fun v11 w12 hv => ?_)
        replace h := h v11 w12 hv
        clear hr
        refine bw_iload_n (i := 2) dX12_whyFill_37 rfl rfl ?_
        refine bw_icmp_ne (tgt := 54) dX12_whyFill_38 (by decide) (fun c => ?_) (fun c => ?_)
        · replace h := h.1 (c)
          refine bw_iconst (v := (-1)) dX12_whyFill_54 (by decide) ?_
          exact bw_ireturn dX12_whyFill_55 rfl rfl ⟨_, rfl, h⟩
        · replace h := h.2 (c)
          refine bw_aload_n (i := 0) dX12_whyFill_41 rfl rfl ?_
          refine bw_iload_n (i := 1) dX12_whyFill_42 rfl rfl ?_
          obtain ⟨Q13, hr, h⟩ := h
          refine bw_cVi (As := [.int a0]) (st := []) cv_BentWordsModel_278 rfl rfl hr rfl rfl (Nat.le_of_ble_eq_true rfl) dX12_whyFill_43 (fun v14 w15 hv => ?_)
          replace h := h v14 w15 hv
          clear hr
          refine bw_iload_n (i := 3) dX12_whyFill_46 rfl rfl ?_
          refine bw_icmp_ne (tgt := 54) dX12_whyFill_47 (by decide) (fun c => ?_) (fun c => ?_)
          · replace h := h.1 (c)
            refine bw_iconst (v := (-1)) dX12_whyFill_54 (by decide) ?_
            exact bw_ireturn dX12_whyFill_55 rfl rfl ⟨_, rfl, h⟩
          · replace h := h.2 (c)
            refine bw_iconst (v := 2) dX12_whyFill_50 (by decide) ?_
            refine bw_goto (tgt := 55) dX12_whyFill_51 (by decide) ?_
            exact bw_ireturn dX12_whyFill_55 rfl rfl ⟨_, rfl, h⟩
      · replace h := h.2 (c)
        refine bw_iconst (v := 1) dX12_whyFill_28 (by decide) ?_
        refine bw_goto (tgt := 55) dX12_whyFill_29 (by decide) ?_
        exact bw_ireturn dX12_whyFill_55 rfl rfl ⟨_, rfl, h⟩
    · replace h := h.2 (c)
      refine bw_iconst (v := 0) dX12_whyFill_16 (by decide) ?_
      exact bw_ireturn dX12_whyFill_17 rfl rfl ⟨_, rfl, h⟩
