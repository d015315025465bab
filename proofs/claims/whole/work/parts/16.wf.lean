theorem wfX12_missingOfAll_4 {E : bw_E} {d : Nat} {w : bw_W} {Q : Int32 → bw_W → Prop} {l1 : Int32} {l2 : Int32}  (h : (((gw_i w 50 35) ≤ l2 → Q l1 w) ∧ (¬ ((gw_i w 50 35) ≤ l2) → (∃ Q1 : Int32 → bw_W → Prop, bw_ri E (d + 4) mX12_missingOf [.ref 50, .int l2] w Q1 ∧ ∀ v2 w3, Q1 v2 w3 →
bw_G E (d + 5) mX12_missingOfAll 4 [some (.ref 50), some (.int (l1 + v2)), some (.int (l2 + 1))] [] w3 (bw_qi Q))))) : bw_G E (d + 5) mX12_missingOfAll 4 [some (.ref 50), some (.int l1), some (.int l2)] [] w (bw_qi Q) := by
  refine bw_iload_n (i := 2) dX12_missingOfAll_4 rfl rfl ?_
  refine bw_aload_n (i := 0) dX12_missingOfAll_5 rfl rfl ?_
  refine bw_geti fg_BentWordsModel_275 rfl dX12_missingOfAll_6 ?_
  refine bw_icmp_ge (tgt := 26) dX12_missingOfAll_9 (by decide) (fun c => ?_) (fun c => ?_)
  · replace h := h.1 (c)
    refine bw_iload_n (i := 1) dX12_missingOfAll_26 rfl rfl ?_
    exact bw_ireturn dX12_missingOfAll_27 rfl rfl ⟨_, rfl, h⟩
  · replace h := h.2 (c)
    refine bw_iload_n (i := 1) dX12_missingOfAll_12 rfl rfl ?_
    refine bw_aload_n (i := 0) dX12_missingOfAll_13 rfl rfl ?_
    refine bw_iload_n (i := 2) dX12_missingOfAll_14 rfl rfl ?_
    obtain ⟨Q1, hr, h⟩ := h
    refine bw_cVi (As := [.int l2]) (st := [.int l1]) cv_BentWordsModel_465 rfl rfl hr rfl rfl (Nat.le_of_ble_eq_true rfl) dX12_missingOfAll_15 (fun v2 w3 hv => ?_)
    replace h := h v2 w3 hv
    clear hr
    refine bw_iadd dX12_missingOfAll_18 ?_
    refine bw_istore_n (i := 1) (L' := [some (.ref 50), some (.int (l1 + v2)), some (.int l2)]) dX12_missingOfAll_19 rfl (Nat.le_of_ble_eq_true rfl) rfl ?_
    refine bw_iinc (i := 2) (x := l2) (v := (l2 + 1)) (L' := [some (.ref 50), some (.int (l1 + v2)), some (.int (l2 + 1))]) dX12_missingOfAll_20 rfl rfl (Nat.le_of_ble_eq_true rfl) rfl ?_
    refine bw_goto (tgt := 4) dX12_missingOfAll_23 (by decide) ?_
    exact h
theorem wfX12_missingOfAll {E : bw_E} {d : Nat} {w : bw_W} {Q : Int32 → bw_W → Prop}   (h : bw_G E (d + 5) mX12_missingOfAll 4 [some (.ref 50), some (.int 0), some (.int 0)] [] w (bw_qi Q)) : bw_ri E (d + 5) mX12_missingOfAll [.ref 50] w Q := by
  refine bw_enter rfl (Nat.le_of_ble_eq_true rfl) ?_
  refine bw_iconst (v := 0) dX12_missingOfAll_0 (by decide) ?_
  refine bw_istore_n (i := 1) (L' := [some (.ref 50), some (.int 0), none]) dX12_missingOfAll_1 rfl (Nat.le_of_ble_eq_true rfl) rfl ?_
  refine bw_iconst (v := 0) dX12_missingOfAll_2 (by decide) ?_
  refine bw_istore_n (i := 2) (L' := [some (.ref 50), some (.int 0), some (.int 0)]) dX12_missingOfAll_3 rfl (Nat.le_of_ble_eq_true rfl) rfl ?_
  exact h
theorem wfX11_guess {E : bw_E} {d : Nat} {w : bw_W} {Q : Int32 → bw_W → Prop} {a0 : Int32} {a1 : Int32}  (h : ((¬ ((¬ (a0 < 0)) ∧ (¬ ((gw_i w 18 6) ≤ a0))) → Q (-1) w) ∧ ((¬ (a0 < 0)) ∧ (¬ ((gw_i w 18 6) ≤ a0)) → ((a1 < (-1) → Q (-1) w) ∧ (¬ (a1 < (-1)) → ((a1 < 6 → (∃ Q1 : Int32 → bw_W → Prop, bw_ri E (d + 5) mX3_holesAskedBy [.ref 18, .int a0] w Q1 ∧ ∀ v2 w3, Q1 v2 w3 →
(∃ Q4 : Int32 → bw_W → Prop, bw_ri E (d + 5) mX11_countGuesses [.ref 0, .int a0, .int v2] (cw_l w3 34 (fun j => if j < 52 then (gw_l w3 32 j) else (gw_l w3 34 j))) Q4 ∧ ∀ v5 w6, Q4 v5 w6 →
((¬ v5 = 0 → ((v5 ≤ 0 → Q v5 (cw_l w6 32 (fun j => if j < 52 then (gw_l w6 34 j) else (gw_l w6 32 j)))) ∧ (¬ (v5 ≤ 0) → ((a1 = (-1) → Q v5 (cw_l w6 32 (fun j => if j < 52 then (gw_l w6 34 j) else (gw_l w6 32 j)))) ∧ (¬ (a1 = (-1)) → (∃ Q7 : bw_W → Prop, bw_rv E (d + 5) mX11_fillByGuess [.ref 0, .int v2, .int (gw_i w6 0 18)] w6 Q7 ∧ ∀ w9, Q7 w9 →
(((¬ ((v2 >>> ((a1 - a1 / 3 * 3) &&& 31)) &&& 1) = 0) → (3 ≤ a1) → (((vp_in (48 + (a1 - a1 / 3 * 3)) 52))))) ∧
(((¬ ((v2 >>> ((a1 - a1 / 3 * 3) &&& 31)) &&& 1) = 0) → (¬ (3 ≤ a1)) → (((vp_in (48 + (a1 - a1 / 3 * 3)) 52))))) ∧
Q (vX11_guessedIn w9 v2 a1) (cw_l w9 32 (fun j => if j < 52 then (gw_l w9 34 j) else (gw_l w9 32 j))))))))) ∧ (v5 = 0 → ((v5 ≤ 0 → Q (-1) (cw_l w6 32 (fun j => if j < 52 then (gw_l w6 34 j) else (gw_l w6 32 j)))) ∧ (¬ (v5 ≤ 0) → ((a1 = (-1) → Q (-1) (cw_l w6 32 (fun j => if j < 52 then (gw_l w6 34 j) else (gw_l w6 32 j)))) ∧ (¬ (a1 = (-1)) → (∃ Q12 : bw_W → Prop, bw_rv E (d + 5) mX11_fillByGuess [.ref 0, .int v2, .int (gw_i w6 0 18)] w6 Q12 ∧ ∀ w14, Q12 w14 →
(((¬ ((v2 >>> ((a1 - a1 / 3 * 3) &&& 31)) &&& 1) = 0) → (3 ≤ a1) → (((vp_in (48 + (a1 - a1 / 3 * 3)) 52))))) ∧
(((¬ ((v2 >>> ((a1 - a1 / 3 * 3) &&& 31)) &&& 1) = 0) → (¬ (3 ≤ a1)) → (((vp_in (48 + (a1 - a1 / 3 * 3)) 52))))) ∧
Q (vX11_guessedIn w14 v2 a1) (cw_l w14 32 (fun j => if j < 52 then (gw_l w14 34 j) else (gw_l w14 32 j))))))))))))) ∧ (¬ (a1 < 6) → Q (-1) w))))))) : bw_ri E (d + 6) mX11_guess [.ref 0, .int a0, .int a1] w Q := by
  refine bw_enter rfl (Nat.le_of_ble_eq_true rfl) ?_
  refine bw_aload_n (i := 0) dX11_guess_0 rfl rfl ?_
  refine bw_iload_n (i := 1) dX11_guess_1 rfl rfl ?_
  refine bw_cVb (As := [.int a0]) (st := []) (Q' := (fun v w1 => (decide ((¬ (a0 < 0)) ∧ (¬ ((gw_i w 18 6) ≤ a0)))) = v ∧ w = w1)) cv_BentWords_235 rfl rfl (fs_X11_hasMessage (d := d + 5) (a0 := a0)  ⟨rfl, rfl⟩) rfl rfl (Nat.le_of_ble_eq_true rfl) dX11_guess_2 (fun v w1 hv => ?_)
  obtain ⟨rfl, rfl⟩ := hv
  refine bw_ifb_eq (tgt := 19) dX11_guess_5 (by decide) (fun c => ?_) (fun c => ?_)
  · replace h := h.1 (of_decide_eq_false c)
    refine bw_iconst (v := (-1)) dX11_guess_19 (by decide) ?_
    exact bw_ireturn dX11_guess_20 rfl rfl ⟨_, rfl, h⟩
  · replace h := h.2 (of_decide_eq_true c)
    refine bw_iload_n (i := 2) dX11_guess_8 rfl rfl ?_
    refine bw_iconst (v := (-1)) dX11_guess_9 (by decide) ?_
    refine bw_icmp_lt (tgt := 19) dX11_guess_10 (by decide) (fun c => ?_) (fun c => ?_)
    · replace h := h.1 (c)
      refine bw_iconst (v := (-1)) dX11_guess_19 (by decide) ?_
      exact bw_ireturn dX11_guess_20 rfl rfl ⟨_, rfl, h⟩
    · replace h := h.2 (c)
      refine bw_iload_n (i := 2) dX11_guess_13 rfl rfl ?_
      refine bw_bipush (v := 6) dX11_guess_14 (by decide) ?_
      refine bw_icmp_lt (tgt := 21) dX11_guess_16 (by decide) (fun c => ?_) (fun c => ?_)
      · replace h := h.1 (c)
        refine bw_aload_n (i := 0) dX11_guess_21 rfl rfl ?_
        refine bw_getr (r := 18) fg_BentWords_44 rfl rfl dX11_guess_22 ?_
        refine bw_iload_n (i := 1) dX11_guess_25 rfl rfl ?_
        obtain ⟨Q1, hr, h⟩ := h
        refine bw_cVi (As := [.int a0]) (st := []) cv_BentWords_241 rfl rfl hr rfl rfl (Nat.le_of_ble_eq_true rfl) dX11_guess_26 (fun v2 w3 hv => ?_)
        replace h := h v2 w3 hv
        clear hr
        refine bw_istore_n (i := 3) (L' := [some (.ref 0), some (.int a0), some (.int a1), some (.int v2), none, none]) dX11_guess_29 rfl (Nat.le_of_ble_eq_true rfl) rfl ?_
        refine bw_aload_n (i := 0) dX11_guess_30 rfl rfl ?_
        refine bw_getr (r := 33) fg_BentWords_62 rfl rfl dX11_guess_31 ?_
        refine bw_aload_n (i := 0) dX11_guess_34 rfl rfl ?_
        refine bw_getr (r := 31) fg_BentWords_58 rfl rfl dX11_guess_35 ?_
        refine bw_cVv (As := [.ref 31]) (st := []) (Q' := (fun w1 => (cw_l w3 34 (fun j => if j < 52 then (gw_l w3 32 j) else (gw_l w3 34 j))) = w1)) cv_BentWords_294 rfl rfl (fs_X7_copyFrom_as (d := d + 4)   rfl) rfl rfl (Nat.le_of_ble_eq_true rfl) dX11_guess_38 (fun w1 hv => ?_)
        subst hv
        refine bw_aload_n (i := 0) dX11_guess_41 rfl rfl ?_
        refine bw_iload_n (i := 1) dX11_guess_42 rfl rfl ?_
        refine bw_iload_n (i := 3) dX11_guess_43 rfl rfl ?_
        obtain ⟨Q4, hr, h⟩ := h
        refine bw_cVi (As := [.int a0, .int v2]) (st := []) cv_BentWords_297 rfl rfl hr rfl rfl (Nat.le_of_ble_eq_true rfl) dX11_guess_44 (fun v5 w6 hv => ?_)
        replace h := h v5 w6 hv
        clear hr
        refine bw_istore (i := 4) (L' := [some (.ref 0), some (.int a0), some (.int a1), some (.int v2), some (.int v5), none]) dX11_guess_47 (Nat.le_of_ble_eq_true rfl) rfl ?_
        refine bw_iload dX11_guess_49 rfl ?_
        refine bw_if_ne (tgt := 58) dX11_guess_51 (by decide) (fun c => ?_) (fun c => ?_)
        · replace h := h.1 (c)
          refine bw_iload dX11_guess_58 rfl ?_
          refine bw_istore (i := 5) (L' := [some (.ref 0), some (.int a0), some (.int a1), some (.int v2), some (.int v5), some (.int v5)]) dX11_guess_60 (Nat.le_of_ble_eq_true rfl) rfl ?_
          refine bw_iload dX11_guess_62 rfl ?_
          refine bw_if_le (tgt := 89) dX11_guess_64 (by decide) (fun c => ?_) (fun c => ?_)
          · replace h := h.1 (c)
            refine bw_aload_n (i := 0) dX11_guess_89 rfl rfl ?_
            refine bw_getr (r := 31) fg_BentWords_58 rfl rfl dX11_guess_90 ?_
            refine bw_aload_n (i := 0) dX11_guess_93 rfl rfl ?_
            refine bw_getr (r := 33) fg_BentWords_62 rfl rfl dX11_guess_94 ?_
            refine bw_cVv (As := [.ref 33]) (st := []) (Q' := (fun w1 => (cw_l w6 32 (fun j => if j < 52 then (gw_l w6 34 j) else (gw_l w6 32 j))) = w1)) cv_BentWords_294 rfl rfl (fs_X7_copyFrom_sa (d := d + 4)   rfl) rfl rfl (Nat.le_of_ble_eq_true rfl) dX11_guess_97 (fun w1 hv => ?_)
            subst hv
            refine bw_iload dX11_guess_100 rfl ?_
            exact bw_ireturn dX11_guess_102 rfl rfl ⟨_, rfl, h⟩
          · replace h := h.2 (c)
            refine bw_iload_n (i := 2) dX11_guess_67 rfl rfl ?_
            refine bw_iconst (v := (-1)) dX11_guess_68 (by decide) ?_
            refine bw_icmp_eq (tgt := 89) dX11_guess_69 (by decide) (fun c => ?_) (fun c => ?_)
            · replace h := h.1 (c)
              refine bw_aload_n (i := 0) dX11_guess_89 rfl rfl ?_
              refine bw_getr (r := 31) fg_BentWords_58 rfl rfl dX11_guess_90 ?_
              refine bw_aload_n (i := 0) dX11_guess_93 rfl rfl ?_
              refine bw_getr (r := 33) fg_BentWords_62 rfl rfl dX11_guess_94 ?_
              refine bw_cVv (As := [.ref 33]) (st := []) (Q' := (fun w1 => (cw_l w6 32 (fun j => if j < 52 then (gw_l w6 34 j) else (gw_l w6 32 j))) = w1)) cv_BentWords_294 rfl rfl (fs_X7_copyFrom_sa (d := d + 4)   rfl) rfl rfl (Nat.le_of_ble_eq_true rfl) dX11_guess_97 (fun w1 hv => ?_)
              subst hv
              refine bw_iload dX11_guess_100 rfl ?_
              exact bw_ireturn dX11_guess_102 rfl rfl ⟨_, rfl, h⟩
            · replace h := h.2 (c)
              refine bw_aload_n (i := 0) dX11_guess_72 rfl rfl ?_
              refine bw_iload_n (i := 3) dX11_guess_73 rfl rfl ?_
              refine bw_aload_n (i := 0) dX11_guess_74 rfl rfl ?_
              refine bw_geti fg_BentWords_300 rfl dX11_guess_75 ?_
              obtain ⟨Q7, hr, h⟩ := h
              refine bw_cVv (As := [.int v2, .int (gw_i w6 0 18)]) (st := []) cv_BentWords_303 rfl rfl hr rfl rfl (Nat.le_of_ble_eq_true rfl) dX11_guess_78 (fun w9 hv => ?_)
              replace h := h w9 hv
              clear hr
              refine bw_aload_n (i := 0) dX11_guess_81 rfl rfl ?_
              refine bw_iload_n (i := 3) dX11_guess_82 rfl rfl ?_
              refine bw_iload_n (i := 2) dX11_guess_83 rfl rfl ?_
              obtain ⟨hc10, h⟩ := h
              obtain ⟨hc11, h⟩ := h
              refine bw_cVi (As := [.int v2, .int a1]) (st := []) (Q' := (fun v w1 => (vX11_guessedIn w9 v2 a1) = v ∧ w9 = w1)) cv_BentWords_307 rfl rfl (fs_X11_guessedIn (d := d + 4) (a0 := v2) (a1 := a1) hc10 hc11 ⟨rfl, rfl⟩) rfl rfl (Nat.le_of_ble_eq_true rfl) dX11_guess_84 (fun v w1 hv => ?_)
              obtain ⟨rfl, rfl⟩ := hv
              refine bw_istore (i := 5) (L' := [some (.ref 0), some (.int a0), some (.int a1), some (.int v2), some (.int v5), some (.int (vX11_guessedIn w9 v2 a1))]) dX11_guess_87 (Nat.le_of_ble_eq_true rfl) rfl ?_
              refine bw_aload_n (i := 0) dX11_guess_89 rfl rfl ?_
              refine bw_getr (r := 31) fg_BentWords_58 rfl rfl dX11_guess_90 ?_
              refine bw_aload_n (i := 0) dX11_guess_93 rfl rfl ?_
              refine bw_getr (r := 33) fg_BentWords_62 rfl rfl dX11_guess_94 ?_
              refine bw_cVv (As := [.ref 33]) (st := []) (Q' := (fun w1 => (cw_l w9 32 (fun j => if j < 52 then (gw_l w9 34 j) else (gw_l w9 32 j))) = w1)) cv_BentWords_294 rfl rfl (fs_X7_copyFrom_sa (d := d + 4)   rfl) rfl rfl (Nat.le_of_ble_eq_true rfl) dX11_guess_97 (fun w1 hv => ?_)
              subst hv
              refine bw_iload dX11_guess_100 rfl ?_
              exact bw_ireturn dX11_guess_102 rfl rfl ⟨_, rfl, h⟩
        · replace h := h.2 (c)
          refine bw_iconst (v := (-1)) dX11_guess_54 (by decide) ?_
          refine bw_goto (tgt := 60) dX11_guess_55 (by decide) ?_
          refine bw_istore (i := 5) (L' := [some (.ref 0), some (.int a0), some (.int a1), some (.int v2), some (.int v5), some (.int (-1))]) dX11_guess_60 (Nat.le_of_ble_eq_true rfl) rfl ?_
          refine bw_iload dX11_guess_62 rfl ?_
          refine bw_if_le (tgt := 89) dX11_guess_64 (by decide) (fun c => ?_) (fun c => ?_)
          · replace h := h.1 (c)
            refine bw_aload_n (i := 0) dX11_guess_89 rfl rfl ?_
            refine bw_getr (r := 31) fg_BentWords_58 rfl rfl dX11_guess_90 ?_
            refine bw_aload_n (i := 0) dX11_guess_93 rfl rfl ?_
            refine bw_getr (r := 33) fg_BentWords_62 rfl rfl dX11_guess_94 ?_
            refine bw_cVv (As := [.ref 33]) (st := []) (Q' := (fun w1 => (cw_l w6 32 (fun j => if j < 52 then (gw_l w6 34 j) else (gw_l w6 32 j))) = w1)) cv_BentWords_294 rfl rfl (fs_X7_copyFrom_sa (d := d + 4)   rfl) rfl rfl (Nat.le_of_ble_eq_true rfl) dX11_guess_97 (fun w1 hv => ?_)
            subst hv
            refine bw_iload dX11_guess_100 rfl ?_
            exact bw_ireturn dX11_guess_102 rfl rfl ⟨_, rfl, h⟩
          · replace h := h.2 (c)
            refine bw_iload_n (i := 2) dX11_guess_67 rfl rfl ?_
            refine bw_iconst (v := (-1)) dX11_guess_68 (by decide) ?_
            refine bw_icmp_eq (tgt := 89) dX11_guess_69 (by decide) (fun c => ?_) (fun c => ?_)
            · replace h := h.1 (c)
              refine bw_aload_n (i := 0) dX11_guess_89 rfl rfl ?_
              refine bw_getr (r := 31) fg_BentWords_58 rfl rfl dX11_guess_90 ?_
              refine bw_aload_n (i := 0) dX11_guess_93 rfl rfl ?_
              refine bw_getr (r := 33) fg_BentWords_62 rfl rfl dX11_guess_94 ?_
              refine bw_cVv (As := [.ref 33]) (st := []) (Q' := (fun w1 => (cw_l w6 32 (fun j => if j < 52 then (gw_l w6 34 j) else (gw_l w6 32 j))) = w1)) cv_BentWords_294 rfl rfl (fs_X7_copyFrom_sa (d := d + 4)   rfl) rfl rfl (Nat.le_of_ble_eq_true rfl) dX11_guess_97 (fun w1 hv => ?_)
              subst hv
              refine bw_iload dX11_guess_100 rfl ?_
              exact bw_ireturn dX11_guess_102 rfl rfl ⟨_, rfl, h⟩
            · replace h := h.2 (c)
              refine bw_aload_n (i := 0) dX11_guess_72 rfl rfl ?_
              refine bw_iload_n (i := 3) dX11_guess_73 rfl rfl ?_
              refine bw_aload_n (i := 0) dX11_guess_74 rfl rfl ?_
              refine bw_geti fg_BentWords_300 rfl dX11_guess_75 ?_
              obtain ⟨Q12, hr, h⟩ := h
              refine bw_cVv (As := [.int v2, .int (gw_i w6 0 18)]) (st := []) cv_BentWords_303 rfl rfl hr rfl rfl (Nat.le_of_ble_eq_true rfl) dX11_guess_78 (fun w14 hv => ?_)
              replace h := h w14 hv
              clear hr
              refine bw_aload_n (i := 0) dX11_guess_81 rfl rfl ?_
              refine bw_iload_n (i := 3) dX11_guess_82 rfl rfl ?_
              refine bw_iload_n (i := 2) dX11_guess_83 rfl rfl ?_
              obtain ⟨hc15, h⟩ := h
              obtain ⟨hc16, h⟩ := h
              refine bw_cVi (As := [.int v2, .int a1]) (st := []) (Q' := (fun v w1 => (vX11_guessedIn w14 v2 a1) = v ∧ w14 = w1)) cv_BentWords_307 rfl rfl (fs_X11_guessedIn (d := d + 4) (a0 := v2) (a1 := a1) hc15 hc16 ⟨rfl, rfl⟩) rfl rfl (Nat.le_of_ble_eq_true rfl) dX11_guess_84 (fun v w1 hv => ?_)
              obtain ⟨rfl, rfl⟩ := hv
              refine bw_istore (i := 5) (L' := [some (.ref 0), some (.int a0), some (.int a1), some (.int v2), some (.int v5), some (.int (vX11_guessedIn w14 v2 a1))]) dX11_guess_87 (Nat.le_of_ble_eq_true rfl) rfl ?_
              refine bw_aload_n (i := 0) dX11_guess_89 rfl rfl ?_
              refine bw_getr (r := 31) fg_BentWords_58 rfl rfl dX11_guess_90 ?_
              refine bw_aload_n (i := 0) dX11_guess_93 rfl rfl ?_
              refine bw_getr (r := 33) fg_BentWords_62 rfl rfl dX11_guess_94 ?_
              refine bw_cVv (As := [.ref 33]) (st := []) (Q' := (fun w1 => (cw_l w14 32 (fun j => if j < 52 then (gw_l w14 34 j) else (gw_l w14 32 j))) = w1)) cv_BentWords_294 rfl rfl (fs_X7_copyFrom_sa (d := d + 4)   rfl) rfl rfl (Nat.le_of_ble_eq_true rfl) dX11_guess_97 (fun w1 hv => ?_)
              subst hv
              refine bw_iload dX11_guess_100 rfl ?_
              exact bw_ireturn dX11_guess_102 rfl rfl ⟨_, rfl, h⟩
      · replace h := h.2 (c)
        refine bw_iconst (v := (-1)) dX11_guess_19 (by decide) ?_
        exact bw_ireturn dX11_guess_20 rfl rfl ⟨_, rfl, h⟩
theorem wfX11_fill {E : bw_E} {d : Nat} {w : bw_W} {Q : Int32 → bw_W → Prop} {a0 : Int32} {a1 : Int32} {a2 : Int32}  (h : (∃ Q1 : Bool → bw_W → Prop, bw_rb E (d + 5) mX11_act [.ref 0, .ref 49, .int 1] (sw_l (sw_i (sw_i (sw_i (sw_i w 49 0 0) 49 1 a0) 49 2 a1) 49 3 a2) 49 4 0) Q1 ∧ ∀ v2 w3, Q1 v2 w3 →
((v2 = false → Q (-1) w3) ∧ (v2 = true → (((vp_in (48 + a0) 52))) ∧
Q (vX7_numberIn w3 a0) w3)))) : bw_ri E (d + 6) mX11_fill [.ref 0, .int a0, .int a1, .int a2] w Q := by
  refine bw_enter rfl (Nat.le_of_ble_eq_true rfl) ?_
  refine bw_aload_n (i := 0) dX11_fill_0 rfl rfl ?_
  refine bw_getr (r := 49) fg_BentWords_101 rfl rfl dX11_fill_1 ?_
  refine bw_iconst (v := 0) dX11_fill_4 (by decide) ?_
  refine bw_iload_n (i := 1) dX11_fill_5 rfl rfl ?_
  refine bw_iload_n (i := 2) dX11_fill_6 rfl rfl ?_
  refine bw_iload_n (i := 3) dX11_fill_7 rfl rfl ?_
  refine bw_lconst (v := 0) dX11_fill_8 rfl ?_
  refine bw_cVv (As := [.int 0, .int a0, .int a1, .int a2, .long 0]) (st := []) (Q' := (fun w1 => (sw_l (sw_i (sw_i (sw_i (sw_i w 49 0 0) 49 1 a0) 49 2 a1) 49 3 a2) 49 4 0) = w1)) cv_BentWords_317 rfl rfl (fs_X8_set (d := d + 5) (sp := 49) (a0 := 0) (a1 := a0) (a2 := a1) (a3 := a2) (a4 := 0) rfl rfl) rfl rfl (Nat.le_of_ble_eq_true rfl) dX11_fill_9 (fun w1 hv => ?_)
  subst hv
  refine bw_aload_n (i := 0) dX11_fill_12 rfl rfl ?_
  refine bw_aload_n (i := 0) dX11_fill_13 rfl rfl ?_
  refine bw_getr (r := 49) fg_BentWords_101 rfl rfl dX11_fill_14 ?_
  refine bw_iconst (v := 1) dX11_fill_17 (by decide) ?_
  obtain ⟨Q1, hr, h⟩ := h
  refine bw_cVb (As := [.ref 49, .int 1]) (st := []) cv_BentWords_321 rfl rfl hr rfl rfl (Nat.le_of_ble_eq_true rfl) dX11_fill_18 (fun v2 w3 hv => ?_)
  replace h := h v2 w3 hv
  clear hr
  refine bw_ifb_eq (tgt := 35) dX11_fill_21 (by decide) (fun c => ?_) (fun c => ?_)
  · replace h := h.1 (c)
    refine bw_iconst (v := (-1)) dX11_fill_35 (by decide) ?_
    exact bw_ireturn dX11_fill_36 rfl rfl ⟨_, rfl, h⟩
  · replace h := h.2 (c)
    refine bw_aload_n (i := 0) dX11_fill_24 rfl rfl ?_
    refine bw_getr (r := 31) fg_BentWords_58 rfl rfl dX11_fill_25 ?_
    refine bw_iload_n (i := 1) dX11_fill_28 rfl rfl ?_
    obtain ⟨hc4, h⟩ := h
    refine bw_cVi (As := [.int a0]) (st := []) (Q' := (fun v w1 => (vX7_numberIn w3 a0) = v ∧ w3 = w1)) cv_BentWords_232 rfl rfl (fs_X7_numberIn (d := d + 5) (a0 := a0) hc4 ⟨rfl, rfl⟩) rfl rfl (Nat.le_of_ble_eq_true rfl) dX11_fill_29 (fun v w1 hv => ?_)
    obtain ⟨rfl, rfl⟩ := hv
    refine bw_goto (tgt := 36) dX11_fill_32 (by decide) ?_
    exact bw_ireturn dX11_fill_36 rfl rfl ⟨_, rfl, h⟩
theorem wfX11_empty {E : bw_E} {d : Nat} {w : bw_W} {Q : Int32 → bw_W → Prop} {a0 : Int32}  (h : (((gw_i w 0 5) = 0 → (∃ Q1 : Bool → bw_W → Prop, bw_rb E (d + 5) mX11_act [.ref 0, .ref 49, .int 1] (sw_l (sw_i (sw_i (sw_i (sw_i w 49 0 1) 49 1 a0) 49 2 0) 49 3 0) 49 4 0) Q1 ∧ ∀ v2 w3, Q1 v2 w3 →
((v2 = false → Q (-1) w3) ∧ (v2 = true → Q (-1) w3)))) ∧ (¬ ((gw_i w 0 5) = 0) → ((¬ ((¬ (a0 < 0)) ∧ (¬ (3 ≤ a0))) → (∃ Q4 : Bool → bw_W → Prop, bw_rb E (d + 5) mX11_act [.ref 0, .ref 49, .int 1] (sw_l (sw_i (sw_i (sw_i (sw_i w 49 0 1) 49 1 a0) 49 2 0) 49 3 0) 49 4 0) Q4 ∧ ∀ v5 w6, Q4 v5 w6 →
((v5 = false → Q (-1) w6) ∧ (v5 = true → Q (-1) w6)))) ∧ ((¬ (a0 < 0)) ∧ (¬ (3 ≤ a0)) → (((vp_in (48 + a0) 52))) ∧
((((gw_l w 32 ((48 + a0).toNatClampNeg)) = 0) → (∃ Q8 : Bool → bw_W → Prop, bw_rb E (d + 5) mX11_act [.ref 0, .ref 49, .int 1] (sw_l (sw_i (sw_i (sw_i (sw_i w 49 0 1) 49 1 a0) 49 2 0) 49 3 0) 49 4 0) Q8 ∧ ∀ v9 w10, Q8 v9 w10 →
((v9 = false → Q (-1) w10) ∧ (v9 = true → Q (-1) w10)))) ∧ (¬ ((gw_l w 32 ((48 + a0).toNatClampNeg)) = 0) → (((vp_in (48 + a0) 52))) ∧
(∃ Q12 : Bool → bw_W → Prop, bw_rb E (d + 5) mX11_act [.ref 0, .ref 49, .int 1] (sw_l (sw_i (sw_i (sw_i (sw_i w 49 0 1) 49 1 a0) 49 2 0) 49 3 0) 49 4 0) Q12 ∧ ∀ v13 w14, Q12 v13 w14 →
((v13 = false → Q (-1) w14) ∧ (v13 = true → Q (vX7_nounIn w a0) w14)))))))))) : bw_ri E (d + 6) mX11_empty [.ref 0, .int a0] w Q := by
  refine bw_enter rfl (Nat.le_of_ble_eq_true rfl) ?_
  refine bw_aload_n (i := 0) dX11_empty_0 rfl rfl ?_
  refine bw_geti fg_BentWords_140 rfl dX11_empty_1 ?_
  refine bw_if_eq (tgt := 36) dX11_empty_4 (by decide) (fun c => ?_) (fun c => ?_)
  · replace h := h.1 (c)
    refine bw_iconst (v := (-1)) dX11_empty_36 (by decide) ?_
    refine bw_istore_n (i := 2) (L' := [some (.ref 0), some (.int a0), some (.int (-1))]) dX11_empty_37 rfl (Nat.le_of_ble_eq_true rfl) rfl ?_
    refine bw_aload_n (i := 0) dX11_empty_38 rfl rfl ?_
    refine bw_getr (r := 49) fg_BentWords_101 rfl rfl dX11_empty_39 ?_
    refine bw_iconst (v := 1) dX11_empty_42 (by decide) ?_
    refine bw_iload_n (i := 1) dX11_empty_43 rfl rfl ?_
    refine bw_iconst (v := 0) dX11_empty_44 (by decide) ?_
    refine bw_iconst (v := 0) dX11_empty_45 (by decide) ?_
    refine bw_lconst (v := 0) dX11_empty_46 rfl ?_
    refine bw_cVv (As := [.int 1, .int a0, .int 0, .int 0, .long 0]) (st := []) (Q' := (fun w1 => (sw_l (sw_i (sw_i (sw_i (sw_i w 49 0 1) 49 1 a0) 49 2 0) 49 3 0) 49 4 0) = w1)) cv_BentWords_317 rfl rfl (fs_X8_set (d := d + 5) (sp := 49) (a0 := 1) (a1 := a0) (a2 := 0) (a3 := 0) (a4 := 0) rfl rfl) rfl rfl (Nat.le_of_ble_eq_true rfl) dX11_empty_47 (fun w1 hv => ?_)
    subst hv
    refine bw_aload_n (i := 0) dX11_empty_50 rfl rfl ?_
    refine bw_aload_n (i := 0) dX11_empty_51 rfl rfl ?_
    refine bw_getr (r := 49) fg_BentWords_101 rfl rfl dX11_empty_52 ?_
    refine bw_iconst (v := 1) dX11_empty_55 (by decide) ?_
    obtain ⟨Q1, hr, h⟩ := h
    refine bw_cVb (As := [.ref 49, .int 1]) (st := []) cv_BentWords_321 rfl rfl hr rfl rfl (Nat.le_of_ble_eq_true rfl) dX11_empty_56 (fun v2 w3 hv => ?_)
    replace h := h v2 w3 hv
    clear hr
    refine bw_ifb_eq (tgt := 66) dX11_empty_59 (by decide) (fun c => ?_) (fun c => ?_)
    · replace h := h.1 (c)
      refine bw_iconst (v := (-1)) dX11_empty_66 (by decide) ?_
      exact bw_ireturn dX11_empty_67 rfl rfl ⟨_, rfl, h⟩
    · replace h := h.2 (c)
      refine bw_iload_n (i := 2) dX11_empty_62 rfl rfl ?_
      refine bw_goto (tgt := 67) dX11_empty_63 (by decide) ?_
      exact bw_ireturn dX11_empty_67 rfl rfl ⟨_, rfl, h⟩
  · replace h := h.2 (c)
    refine bw_iload_n (i := 1) dX11_empty_7 rfl rfl ?_
    refine bw_cSb (As := [.int a0]) (st := []) (Q' := (fun v w1 => (decide ((¬ (a0 < 0)) ∧ (¬ (3 ≤ a0)))) = v ∧ w = w1)) cs_BentWords_220 (fs_X11_isHole (d := d + 5) (a0 := a0)  ⟨rfl, rfl⟩) rfl rfl (Nat.le_of_ble_eq_true rfl) dX11_empty_8 (fun v w1 hv => ?_)
    obtain ⟨rfl, rfl⟩ := hv
    refine bw_ifb_eq (tgt := 36) dX11_empty_11 (by decide) (fun c => ?_) (fun c => ?_)
    · replace h := h.1 (of_decide_eq_false c)
      refine bw_iconst (v := (-1)) dX11_empty_36 (by decide) ?_
      refine bw_istore_n (i := 2) (L' := [some (.ref 0), some (.int a0), some (.int (-1))]) dX11_empty_37 rfl (Nat.le_of_ble_eq_true rfl) rfl ?_
      refine bw_aload_n (i := 0) dX11_empty_38 rfl rfl ?_
      refine bw_getr (r := 49) fg_BentWords_101 rfl rfl dX11_empty_39 ?_
      refine bw_iconst (v := 1) dX11_empty_42 (by decide) ?_
      refine bw_iload_n (i := 1) dX11_empty_43 rfl rfl ?_
      refine bw_iconst (v := 0) dX11_empty_44 (by decide) ?_
      refine bw_iconst (v := 0) dX11_empty_45 (by decide) ?_
      refine bw_lconst (v := 0) dX11_empty_46 rfl ?_
      refine bw_cVv (As := [.int 1, .int a0, .int 0, .int 0, .long 0]) (st := []) (Q' := (fun w1 => (sw_l (sw_i (sw_i (sw_i (sw_i w 49 0 1) 49 1 a0) 49 2 0) 49 3 0) 49 4 0) = w1)) cv_BentWords_317 rfl rfl (fs_X8_set (d := d + 5) (sp := 49) (a0 := 1) (a1 := a0) (a2 := 0) (a3 := 0) (a4 := 0) rfl rfl) rfl rfl (Nat.le_of_ble_eq_true rfl) dX11_empty_47 (fun w1 hv => ?_)
      subst hv
      refine bw_aload_n (i := 0) dX11_empty_50 rfl rfl ?_
      refine bw_aload_n (i := 0) dX11_empty_51 rfl rfl ?_
      refine bw_getr (r := 49) fg_BentWords_101 rfl rfl dX11_empty_52 ?_
      refine bw_iconst (v := 1) dX11_empty_55 (by decide) ?_
      obtain ⟨Q4, hr, h⟩ := h
      refine bw_cVb (As := [.ref 49, .int 1]) (st := []) cv_BentWords_321 rfl rfl hr rfl rfl (Nat.le_of_ble_eq_true rfl) dX11_empty_56 (fun v5 w6 hv => ?_)
      replace h := h v5 w6 hv
      clear hr
      refine bw_ifb_eq (tgt := 66) dX11_empty_59 (by decide) (fun c => ?_) (fun c => ?_)
      · replace h := h.1 (c)
        refine bw_iconst (v := (-1)) dX11_empty_66 (by decide) ?_
        exact bw_ireturn dX11_empty_67 rfl rfl ⟨_, rfl, h⟩
      · replace h := h.2 (c)
        refine bw_iload_n (i := 2) dX11_empty_62 rfl rfl ?_
        refine bw_goto (tgt := 67) dX11_empty_63 (by decide) ?_
        exact bw_ireturn dX11_empty_67 rfl rfl ⟨_, rfl, h⟩
    · replace h := h.2 (of_decide_eq_true c)
      refine bw_aload_n (i := 0) dX11_empty_14 rfl rfl ?_
      refine bw_getr (r := 31) fg_BentWords_58 rfl rfl dX11_empty_15 ?_
      refine bw_iload_n (i := 1) dX11_empty_18 rfl rfl ?_
      obtain ⟨hc7, h⟩ := h
      refine bw_cVb (As := [.int a0]) (st := []) (Q' := (fun v w1 => (decide ((gw_l w 32 ((48 + a0).toNatClampNeg)) = 0)) = v ∧ w = w1)) cv_BentWords_223 rfl rfl (fs_X7_isOpen (d := d + 5) (a0 := a0) hc7 ⟨rfl, rfl⟩) rfl rfl (Nat.le_of_ble_eq_true rfl) dX11_empty_19 (fun v w1 hv => ?_)
      obtain ⟨rfl, rfl⟩ := hv
      refine bw_ifb_ne (tgt := 36) dX11_empty_22 (by decide) (fun c => ?_) (fun c => ?_)
      · replace h := h.1 (of_decide_eq_true c)
        refine bw_iconst (v := (-1)) dX11_empty_36 (by decide) ?_
        refine bw_istore_n (i := 2) (L' := [some (.ref 0), some (.int a0), some (.int (-1))]) dX11_empty_37 rfl (Nat.le_of_ble_eq_true rfl) rfl ?_
        refine bw_aload_n (i := 0) dX11_empty_38 rfl rfl ?_
        refine bw_getr (r := 49) fg_BentWords_101 rfl rfl dX11_empty_39 ?_
        refine bw_iconst (v := 1) dX11_empty_42 (by decide) ?_
        refine bw_iload_n (i := 1) dX11_empty_43 rfl rfl ?_
        refine bw_iconst (v := 0) dX11_empty_44 (by decide) ?_
        refine bw_iconst (v := 0) dX11_empty_45 (by decide) ?_
        refine bw_lconst (v := 0) dX11_empty_46 rfl ?_
        refine bw_cVv (As := [.int 1, .int a0, .int 0, .int 0, .long 0]) (st := []) (Q' := (fun w1 => (sw_l (sw_i (sw_i (sw_i (sw_i w 49 0 1) 49 1 a0) 49 2 0) 49 3 0) 49 4 0) = w1)) cv_BentWords_317 rfl rfl (fs_X8_set (d := d + 5) (sp := 49) (a0 := 1) (a1 := a0) (a2 := 0) (a3 := 0) (a4 := 0) rfl rfl) rfl rfl (Nat.le_of_ble_eq_true rfl) dX11_empty_47 (fun w1 hv => ?_)
        subst hv
        refine bw_aload_n (i := 0) dX11_empty_50 rfl rfl ?_
        refine bw_aload_n (i := 0) dX11_empty_51 rfl rfl ?_
        refine bw_getr (r := 49) fg_BentWords_101 rfl rfl dX11_empty_52 ?_
        refine bw_iconst (v := 1) dX11_empty_55 (by decide) ?_
        obtain ⟨Q8, hr, h⟩ := h
        refine bw_cVb (As := [.ref 49, .int 1]) (st := []) cv_BentWords_321 rfl rfl hr rfl rfl (Nat.le_of_ble_eq_true rfl) dX11_empty_56 (fun v9 w10 hv => ?_)
        replace h := h v9 w10 hv
        clear hr
        refine bw_ifb_eq (tgt := 66) dX11_empty_59 (by decide) (fun c => ?_) (fun c => ?_)
        · replace h := h.1 (c)
          refine bw_iconst (v := (-1)) dX11_empty_66 (by decide) ?_
          exact bw_ireturn dX11_empty_67 rfl rfl ⟨_, rfl, h⟩
        · replace h := h.2 (c)
          refine bw_iload_n (i := 2) dX11_empty_62 rfl rfl ?_
          refine bw_goto (tgt := 67) dX11_empty_63 (by decide) ?_
          exact bw_ireturn dX11_empty_67 rfl rfl ⟨_, rfl, h⟩
      · replace h := h.2 (of_decide_eq_false c)
        refine bw_aload_n (i := 0) dX11_empty_25 rfl rfl ?_
        refine bw_getr (r := 31) fg_BentWords_58 rfl rfl dX11_empty_26 ?_
        refine bw_iload_n (i := 1) dX11_empty_29 rfl rfl ?_
        obtain ⟨hc11, h⟩ := h
        refine bw_cVi (As := [.int a0]) (st := []) (Q' := (fun v w1 => (vX7_nounIn w a0) = v ∧ w = w1)) cv_BentWords_226 rfl rfl (fs_X7_nounIn (d := d + 5) (a0 := a0) hc11 ⟨rfl, rfl⟩) rfl rfl (Nat.le_of_ble_eq_true rfl) dX11_empty_30 (fun v w1 hv => ?_)
        obtain ⟨rfl, rfl⟩ := hv
        refine bw_goto (tgt := 37) dX11_empty_33 (by decide) ?_
        refine bw_istore_n (i := 2) (L' := [some (.ref 0), some (.int a0), some (.int (vX7_nounIn w a0))]) dX11_empty_37 rfl (Nat.le_of_ble_eq_true rfl) rfl ?_
        refine bw_aload_n (i := 0) dX11_empty_38 rfl rfl ?_
        refine bw_getr (r := 49) fg_BentWords_101 rfl rfl dX11_empty_39 ?_
        refine bw_iconst (v := 1) dX11_empty_42 (by decide) ?_
        refine bw_iload_n (i := 1) dX11_empty_43 rfl rfl ?_
        refine bw_iconst (v := 0) dX11_empty_44 (by decide) ?_
        refine bw_iconst (v := 0) dX11_empty_45 (by decide) ?_
        refine bw_lconst (v := 0) dX11_empty_46 rfl ?_
        refine bw_cVv (As := [.int 1, .int a0, .int 0, .int 0, .long 0]) (st := []) (Q' := (fun w1 => (sw_l (sw_i (sw_i (sw_i (sw_i w 49 0 1) 49 1 a0) 49 2 0) 49 3 0) 49 4 0) = w1)) cv_BentWords_317 rfl rfl (fs_X8_set (d := d + 5) (sp := 49) (a0 := 1) (a1 := a0) (a2 := 0) (a3 := 0) (a4 := 0) rfl rfl) rfl rfl (Nat.le_of_ble_eq_true rfl) dX11_empty_47 (fun w1 hv => ?_)
        subst hv
        refine bw_aload_n (i := 0) dX11_empty_50 rfl rfl ?_
        refine bw_aload_n (i := 0) dX11_empty_51 rfl rfl ?_
        refine bw_getr (r := 49) fg_BentWords_101 rfl rfl dX11_empty_52 ?_
        refine bw_iconst (v := 1) dX11_empty_55 (by decide) ?_
        obtain ⟨Q12, hr, h⟩ := h
        refine bw_cVb (As := [.ref 49, .int 1]) (st := []) cv_BentWords_321 rfl rfl hr rfl rfl (Nat.le_of_ble_eq_true rfl) dX11_empty_56 (fun v13 w14 hv => ?_)
        replace h := h v13 w14 hv
        clear hr
        refine bw_ifb_eq (tgt := 66) dX11_empty_59 (by decide) (fun c => ?_) (fun c => ?_)
        · replace h := h.1 (c)
          refine bw_iconst (v := (-1)) dX11_empty_66 (by decide) ?_
          exact bw_ireturn dX11_empty_67 rfl rfl ⟨_, rfl, h⟩
        · replace h := h.2 (c)
          refine bw_iload_n (i := 2) dX11_empty_62 rfl rfl ?_
          refine bw_goto (tgt := 67) dX11_empty_63 (by decide) ?_
          exact bw_ireturn dX11_empty_67 rfl rfl ⟨_, rfl, h⟩
theorem wfX11_strict {E : bw_E} {d : Nat} {w : bw_W} {Q : Int32 → bw_W → Prop} {a0 : Int32}  (h : (∃ Q1 : Bool → bw_W → Prop, bw_rb E (d + 5) mX11_act [.ref 0, .ref 49, .int 1] (sw_l (sw_i (sw_i (sw_i (sw_i w 49 0 2) 49 1 a0) 49 2 0) 49 3 0) 49 4 0) Q1 ∧ ∀ v2 w3, Q1 v2 w3 →
((v2 = false → Q (-1) w3) ∧ (v2 = true → (∃ Q4 : Int32 → bw_W → Prop, bw_ri E (d + 5) mX11_tellable [.ref 0] w3 Q4 ∧ ∀ v5 w6, Q4 v5 w6 →
Q v5 w6))))) : bw_ri E (d + 6) mX11_strict [.ref 0, .int a0] w Q := by
  refine bw_enter rfl (Nat.le_of_ble_eq_true rfl) ?_
  refine bw_aload_n (i := 0) dX11_strict_0 rfl rfl ?_
  refine bw_getr (r := 49) fg_BentWords_101 rfl rfl dX11_strict_1 ?_
  refine bw_iconst (v := 2) dX11_strict_4 (by decide) ?_
  refine bw_iload_n (i := 1) dX11_strict_5 rfl rfl ?_
  refine bw_iconst (v := 0) dX11_strict_6 (by decide) ?_
  refine bw_iconst (v := 0) dX11_strict_7 (by decide) ?_
  refine bw_lconst (v := 0) dX11_strict_8 rfl ?_
  refine bw_cVv (As := [.int 2, .int a0, .int 0, .int 0, .long 0]) (st := []) (Q' := (fun w1 => (sw_l (sw_i (sw_i (sw_i (sw_i w 49 0 2) 49 1 a0) 49 2 0) 49 3 0) 49 4 0) = w1)) cv_BentWords_317 rfl rfl (fs_X8_set (d := d + 5) (sp := 49) (a0 := 2) (a1 := a0) (a2 := 0) (a3 := 0) (a4 := 0) rfl rfl) rfl rfl (Nat.le_of_ble_eq_true rfl) dX11_strict_9 (fun w1 hv => ?_)
  subst hv
  refine bw_aload_n (i := 0) dX11_strict_12 rfl rfl ?_
  refine bw_aload_n (i := 0) dX11_strict_13 rfl rfl ?_
  refine bw_getr (r := 49) fg_BentWords_101 rfl rfl dX11_strict_14 ?_
  refine bw_iconst (v := 1) dX11_strict_17 (by decide) ?_
  obtain ⟨Q1, hr, h⟩ := h
  refine bw_cVb (As := [.ref 49, .int 1]) (st := []) cv_BentWords_321 rfl rfl hr rfl rfl (Nat.le_of_ble_eq_true rfl) dX11_strict_18 (fun v2 w3 hv => ?_)
  replace h := h v2 w3 hv
  clear hr
  refine bw_ifb_eq (tgt := 31) dX11_strict_21 (by decide) (fun c => ?_) (fun c => ?_)
  · replace h := h.1 (c)
    refine bw_iconst (v := (-1)) dX11_strict_31 (by decide) ?_
    exact bw_ireturn dX11_strict_32 rfl rfl ⟨_, rfl, h⟩
  · replace h := h.2 (c)
    refine bw_aload_n (i := 0) dX11_strict_24 rfl rfl ?_
    obtain ⟨Q4, hr, h⟩ := h
    refine bw_cVi (As := []) (st := []) cv_BentWords_325 rfl rfl hr rfl rfl (Nat.le_of_ble_eq_true rfl) dX11_strict_25 (fun v5 w6 hv => ?_)
    replace h := h v5 w6 hv
    clear hr
    refine bw_goto (tgt := 32) dX11_strict_28 (by decide) ?_
    exact bw_ireturn dX11_strict_32 rfl rfl ⟨_, rfl, h⟩
theorem wfX11_tell {E : bw_E} {d : Nat} {w : bw_W} {Q : Int32 → bw_W → Prop} {a0 : Int32} {a1 : Int32} {a2 : Int32}  (h : (∃ Q1 : Int64 → bw_W → Prop, bw_rl E (d + 5) mX0_wordAlone [.ref 3] w Q1 ∧ ∀ v2 w3, Q1 v2 w3 →
(∃ Q4 : Bool → bw_W → Prop, bw_rb E (d + 5) mX11_act [.ref 0, .ref 49, .int 1] (sw_l (sw_i (sw_i (sw_i (sw_i w3 49 0 3) 49 1 a0) 49 2 a1) 49 3 a2) 49 4 v2) Q4 ∧ ∀ v5 w6, Q4 v5 w6 →
((v5 = true → (∃ Q7 : Int32 → bw_W → Prop, bw_ri E (d + 5) mX11_formsToldOf [.ref 0, .int a0] (sw_i w6 1 1 0) Q7 ∧ ∀ v8 w9, Q7 v8 w9 →
Q v8 w9)) ∧ (v5 = false → Q (-1) w6))))) : bw_ri E (d + 6) mX11_tell [.ref 0, .int a0, .int a1, .int a2] w Q := by
  refine bw_enter rfl (Nat.le_of_ble_eq_true rfl) ?_
  refine bw_aload_n (i := 0) dX11_tell_0 rfl rfl ?_
  refine bw_getr (r := 49) fg_BentWords_101 rfl rfl dX11_tell_1 ?_
  refine bw_iconst (v := 3) dX11_tell_4 (by decide) ?_
  refine bw_iload_n (i := 1) dX11_tell_5 rfl rfl ?_
  refine bw_iload_n (i := 2) dX11_tell_6 rfl rfl ?_
  refine bw_iload_n (i := 3) dX11_tell_7 rfl rfl ?_
  refine bw_aload_n (i := 0) dX11_tell_8 rfl rfl ?_
  refine bw_getr (r := 3) fg_BentWords_21 rfl rfl dX11_tell_9 ?_
  obtain ⟨Q1, hr, h⟩ := h
  refine bw_cVl (As := []) (st := [.int a2, .int a1, .int a0, .int 3, .ref 49]) cv_BentWords_290 rfl rfl hr rfl rfl (Nat.le_of_ble_eq_true rfl) dX11_tell_12 (fun v2 w3 hv => ?_)
  replace h := h v2 w3 hv
  clear hr
  refine bw_cVv (As := [.int 3, .int a0, .int a1, .int a2, .long v2]) (st := []) (Q' := (fun w1 => (sw_l (sw_i (sw_i (sw_i (sw_i w3 49 0 3) 49 1 a0) 49 2 a1) 49 3 a2) 49 4 v2) = w1)) cv_BentWords_317 rfl rfl (fs_X8_set (d := d + 5) (sp := 49) (a0 := 3) (a1 := a0) (a2 := a1) (a3 := a2) (a4 := v2) rfl rfl) rfl rfl (Nat.le_of_ble_eq_true rfl) dX11_tell_15 (fun w1 hv => ?_)
  subst hv
  refine bw_aload_n (i := 0) dX11_tell_18 rfl rfl ?_
  refine bw_aload_n (i := 0) dX11_tell_19 rfl rfl ?_
  refine bw_getr (r := 49) fg_BentWords_101 rfl rfl dX11_tell_20 ?_
  refine bw_iconst (v := 1) dX11_tell_23 (by decide) ?_
  obtain ⟨Q4, hr, h⟩ := h
  refine bw_cVb (As := [.ref 49, .int 1]) (st := []) cv_BentWords_321 rfl rfl hr rfl rfl (Nat.le_of_ble_eq_true rfl) dX11_tell_24 (fun v5 w6 hv => ?_)
  replace h := h v5 w6 hv
  clear hr
  refine bw_ifb_ne (tgt := 32) dX11_tell_27 (by decide) (fun c => ?_) (fun c => ?_)
  · replace h := h.1 (c)
    refine bw_aload_n (i := 0) dX11_tell_32 rfl rfl ?_
    refine bw_getr (r := 1) fg_BentWords_12 rfl rfl dX11_tell_33 ?_
    refine bw_iconst (v := 0) dX11_tell_36 (by decide) ?_
    refine bw_puti fp_BentWords_109 rfl rfl rfl dX11_tell_37 ?_
    refine bw_aload_n (i := 0) dX11_tell_40 rfl rfl ?_
    refine bw_iload_n (i := 1) dX11_tell_41 rfl rfl ?_
    obtain ⟨Q7, hr, h⟩ := h
    refine bw_cVi (As := [.int a0]) (st := []) cv_BentWords_197 rfl rfl hr rfl rfl (Nat.le_of_ble_eq_true rfl) dX11_tell_42 (fun v8 w9 hv => ?_)
    replace h := h v8 w9 hv
    clear hr
    exact bw_ireturn dX11_tell_45 rfl rfl ⟨_, rfl, h⟩
  · replace h := h.2 (c)
    refine bw_iconst (v := (-1)) dX11_tell_30 (by decide) ?_
    exact bw_ireturn dX11_tell_31 rfl rfl ⟨_, rfl, h⟩
theorem wfX11_drop {E : bw_E} {d : Nat} {w : bw_W} {Q : Int32 → bw_W → Prop} {a0 : Int32} {a1 : Int32} {a2 : Int32}  (h : (∃ Q1 : Bool → bw_W → Prop, bw_rb E (d + 5) mX11_act [.ref 0, .ref 49, .int 1] (sw_l (sw_i (sw_i (sw_i (sw_i w 49 0 4) 49 1 a0) 49 2 a1) 49 3 a2) 49 4 0) Q1 ∧ ∀ v2 w3, Q1 v2 w3 →
((v2 = false → Q (-1) w3) ∧ (v2 = true → (∃ Q4 : Int32 → bw_W → Prop, bw_ri E (d + 5) mX11_formsToldOf [.ref 0, .int a0] w3 Q4 ∧ ∀ v5 w6, Q4 v5 w6 →
Q v5 w6))))) : bw_ri E (d + 6) mX11_drop [.ref 0, .int a0, .int a1, .int a2] w Q := by
  refine bw_enter rfl (Nat.le_of_ble_eq_true rfl) ?_
  refine bw_aload_n (i := 0) dX11_drop_0 rfl rfl ?_
  refine bw_getr (r := 49) fg_BentWords_101 rfl rfl dX11_drop_1 ?_
  refine bw_iconst (v := 4) dX11_drop_4 (by decide) ?_
  refine bw_iload_n (i := 1) dX11_drop_5 rfl rfl ?_
  refine bw_iload_n (i := 2) dX11_drop_6 rfl rfl ?_
  refine bw_iload_n (i := 3) dX11_drop_7 rfl rfl ?_
  refine bw_lconst (v := 0) dX11_drop_8 rfl ?_
  refine bw_cVv (As := [.int 4, .int a0, .int a1, .int a2, .long 0]) (st := []) (Q' := (fun w1 => (sw_l (sw_i (sw_i (sw_i (sw_i w 49 0 4) 49 1 a0) 49 2 a1) 49 3 a2) 49 4 0) = w1)) cv_BentWords_317 rfl rfl (fs_X8_set (d := d + 5) (sp := 49) (a0 := 4) (a1 := a0) (a2 := a1) (a3 := a2) (a4 := 0) rfl rfl) rfl rfl (Nat.le_of_ble_eq_true rfl) dX11_drop_9 (fun w1 hv => ?_)
  subst hv
  refine bw_aload_n (i := 0) dX11_drop_12 rfl rfl ?_
  refine bw_aload_n (i := 0) dX11_drop_13 rfl rfl ?_
  refine bw_getr (r := 49) fg_BentWords_101 rfl rfl dX11_drop_14 ?_
  refine bw_iconst (v := 1) dX11_drop_17 (by decide) ?_
  obtain ⟨Q1, hr, h⟩ := h
  refine bw_cVb (As := [.ref 49, .int 1]) (st := []) cv_BentWords_321 rfl rfl hr rfl rfl (Nat.le_of_ble_eq_true rfl) dX11_drop_18 (fun v2 w3 hv => ?_)
  replace h := h v2 w3 hv
  clear hr
  refine bw_ifb_eq (tgt := 32) dX11_drop_21 (by decide) (fun c => ?_) (fun c => ?_)
  · replace h := h.1 (c)
    refine bw_iconst (v := (-1)) dX11_drop_32 (by decide) ?_
    exact bw_ireturn dX11_drop_33 rfl rfl ⟨_, rfl, h⟩
  · replace h := h.2 (c)
    refine bw_aload_n (i := 0) dX11_drop_24 rfl rfl ?_
    refine bw_iload_n (i := 1) dX11_drop_25 rfl rfl ?_
    obtain ⟨Q4, hr, h⟩ := h
    refine bw_cVi (As := [.int a0]) (st := []) cv_BentWords_197 rfl rfl hr rfl rfl (Nat.le_of_ble_eq_true rfl) dX11_drop_26 (fun v5 w6 hv => ?_)
    replace h := h v5 w6 hv
    clear hr
    refine bw_goto (tgt := 33) dX11_drop_29 (by decide) ?_
    exact bw_ireturn dX11_drop_33 rfl rfl ⟨_, rfl, h⟩
theorem wfX11_ways_31 {E : bw_E} {d : Nat} {w : bw_W} {Q : Int32 → bw_W → Prop} {l1 : Int32} {l2 : Int64} {l4 : Int32}  (h : ((l1 ≤ l4 → (∃ Q1 : Int32 → bw_W → Prop, bw_ri E (d + 5) mX11_tellable [.ref 0] w Q1 ∧ ∀ v2 w3, Q1 v2 w3 →
Q v2 w3)) ∧ (¬ (l1 ≤ l4) → (∃ Q4 : bw_W → Prop, bw_rv E (d + 5) mX1_drawStep [.ref 48, .ref 49, .int (gw_i w 18 0)] w Q4 ∧ ∀ w6, Q4 w6 →
(∃ Q7 : Bool → bw_W → Prop, bw_rb E (d + 5) mX11_act [.ref 0, .ref 49, .int 0] w6 Q7 ∧ ∀ v8 w9, Q7 v8 w9 →
bw_G E (d + 6) mX11_ways 31 [some (.ref 0), some (.int l1), some (.long l2), none, some (.int (l4 + 1))] [] w9 (bw_qi Q)))))) : bw_G E (d + 6) mX11_ways 31 [some (.ref 0), some (.int l1), some (.long l2), none, some (.int l4)] [] w (bw_qi Q) := by
  refine bw_iload dX11_ways_31 rfl ?_
  refine bw_iload_n (i := 1) dX11_ways_33 rfl rfl ?_
  refine bw_icmp_ge (tgt := 71) dX11_ways_34 (by decide) (fun c => ?_) (fun c => ?_)
  · replace h := h.1 (c)
    refine bw_aload_n (i := 0) dX11_ways_71 rfl rfl ?_
    obtain ⟨Q1, hr, h⟩ := h
    refine bw_cVi (As := []) (st := []) cv_BentWords_325 rfl rfl hr rfl rfl (Nat.le_of_ble_eq_true rfl) dX11_ways_72 (fun v2 w3 hv => ?_)
    replace h := h v2 w3 hv
    clear hr
    exact bw_ireturn dX11_ways_75 rfl rfl ⟨_, rfl, h⟩
  · replace h := h.2 (c)
    refine bw_aload_n (i := 0) dX11_ways_37 rfl rfl ?_
    refine bw_getr (r := 48) fg_BentWords_94 rfl rfl dX11_ways_38 ?_
    refine bw_aload_n (i := 0) dX11_ways_41 rfl rfl ?_
    refine bw_getr (r := 49) fg_BentWords_101 rfl rfl dX11_ways_42 ?_
    refine bw_aload_n (i := 0) dX11_ways_45 rfl rfl ?_
    refine bw_getr (r := 18) fg_BentWords_44 rfl rfl dX11_ways_46 ?_
    refine bw_geti fg_BentWords_153 rfl dX11_ways_49 ?_
    obtain ⟨Q4, hr, h⟩ := h
    refine bw_cVv (As := [.ref 49, .int (gw_i w 18 0)]) (st := []) cv_BentWords_332 rfl rfl hr rfl rfl (Nat.le_of_ble_eq_true rfl) dX11_ways_52 (fun w6 hv => ?_)
    replace h := h w6 hv
    clear hr
    refine bw_aload_n (i := 0) dX11_ways_55 rfl rfl ?_
    refine bw_aload_n (i := 0) dX11_ways_56 rfl rfl ?_
    refine bw_getr (r := 49) fg_BentWords_101 rfl rfl dX11_ways_57 ?_
    refine bw_iconst (v := 0) dX11_ways_60 (by decide) ?_
    obtain ⟨Q7, hr, h⟩ := h
    refine bw_cVb (As := [.ref 49, .int 0]) (st := []) cv_BentWords_321 rfl rfl hr rfl rfl (Nat.le_of_ble_eq_true rfl) dX11_ways_61 (fun v8 w9 hv => ?_)
    replace h := h v8 w9 hv
    clear hr
    refine bw_pop dX11_ways_64 rfl ?_
    refine bw_iinc (i := 4) (x := l4) (v := (l4 + 1)) (L' := [some (.ref 0), some (.int l1), some (.long l2), none, some (.int (l4 + 1))]) dX11_ways_65 rfl rfl (Nat.le_of_ble_eq_true rfl) rfl ?_
    refine bw_goto (tgt := 31) dX11_ways_68 (by decide) ?_
    exact h
theorem wfX11_ways {E : bw_E} {d : Nat} {w : bw_W} {Q : Int32 → bw_W → Prop} {a0 : Int32} {a1 : Int64}  (h : (((gw_i w 0 5) = 0 → Q (-1) w) ∧ (¬ ((gw_i w 0 5) = 0) → ((a0 < 1 → Q (-1) w) ∧ (¬ (a0 < 1) → ((a0 ≤ 40 → bw_G E (d + 6) mX11_ways 31 [some (.ref 0), some (.int a0), some (.long a1), none, some (.int 0)] [] (sw_l w 48 0 a1) (bw_qi Q)) ∧ (¬ (a0 ≤ 40) → Q (-1) w))))))) : bw_ri E (d + 6) mX11_ways [.ref 0, .int a0, .long a1] w Q := by
  refine bw_enter rfl (Nat.le_of_ble_eq_true rfl) ?_
  refine bw_aload_n (i := 0) dX11_ways_0 rfl rfl ?_
  refine bw_geti fg_BentWords_140 rfl dX11_ways_1 ?_
  refine bw_if_eq (tgt := 18) dX11_ways_4 (by decide) (fun c => ?_) (fun c => ?_)
  · replace h := h.1 (c)
    refine bw_iconst (v := (-1)) dX11_ways_18 (by decide) ?_
    exact bw_ireturn dX11_ways_19 rfl rfl ⟨_, rfl, h⟩
  · replace h := h.2 (c)
    refine bw_iload_n (i := 1) dX11_ways_7 rfl rfl ?_
    refine bw_iconst (v := 1) dX11_ways_8 (by decide) ?_
    refine bw_icmp_lt (tgt := 18) dX11_ways_9 (by decide) (fun c => ?_) (fun c => ?_)
    · replace h := h.1 (c)
      refine bw_iconst (v := (-1)) dX11_ways_18 (by decide) ?_
      exact bw_ireturn dX11_ways_19 rfl rfl ⟨_, rfl, h⟩
    · replace h := h.2 (c)
      refine bw_iload_n (i := 1) dX11_ways_12 rfl rfl ?_
      refine bw_bipush (v := 40) dX11_ways_13 (by decide) ?_
      refine bw_icmp_le (tgt := 20) dX11_ways_15 (by decide) (fun c => ?_) (fun c => ?_)
      · replace h := h.1 (c)
        refine bw_aload_n (i := 0) dX11_ways_20 rfl rfl ?_
        refine bw_getr (r := 48) fg_BentWords_94 rfl rfl dX11_ways_21 ?_
        refine bw_lload_n (i := 2) dX11_ways_24 rfl rfl ?_
        refine bw_putl fp_BentWords_328 rfl dX11_ways_25 ?_
        refine bw_iconst (v := 0) dX11_ways_28 (by decide) ?_
        refine bw_istore (i := 4) (L' := [some (.ref 0), some (.int a0), some (.long a1), none, some (.int 0)]) dX11_ways_29 (Nat.le_of_ble_eq_true rfl) rfl ?_
        exact h
      · replace h := h.2 (c)
        refine bw_iconst (v := (-1)) dX11_ways_18 (by decide) ?_
        exact bw_ireturn dX11_ways_19 rfl rfl ⟨_, rfl, h⟩
theorem wfX11_run_49 {E : bw_E} {d : Nat} {w : bw_W} {Q : Int32 → bw_W → Prop} {l1 : Int32} {l2 : Int32} {l3 : Nat} {l4 : Int32}  (h : (bw_sh l3 = (0, 5, 2)) ∧
(((gw_i w l3 0) ≤ l4 → (∃ Q2 : Int32 → bw_W → Prop, bw_ri E (d + 5) mX11_tellable [.ref 0] w Q2 ∧ ∀ v3 w4, Q2 v3 w4 →
((¬ l2 = 1 → ((¬ l4 = (gw_i (cw_l w4 32 (fun j => if j < 52 then (gw_l w4 34 j) else (gw_l w4 32 j))) l3 0) → Q l4 (cw_l w4 32 (fun j => if j < 52 then (gw_l w4 34 j) else (gw_l w4 32 j)))) ∧ (l4 = (gw_i (cw_l w4 32 (fun j => if j < 52 then (gw_l w4 34 j) else (gw_l w4 32 j))) l3 0) → Q (-1) (cw_l w4 32 (fun j => if j < 52 then (gw_l w4 34 j) else (gw_l w4 32 j)))))) ∧ (l2 = 1 → Q v3 (cw_l w4 32 (fun j => if j < 52 then (gw_l w4 34 j) else (gw_l w4 32 j))))))) ∧ (¬ ((gw_i w l3 0) ≤ l4) → (bw_sh (bw_rf l3 1) = (5, 12, 0)) ∧
(vp_in l4 12) ∧
(∃ Q7 : Int32 → bw_W → Prop, bw_ri E (d + 5) mX11_refusalOf [.ref 0, .ref (bw_rf (bw_rf l3 1) (l4.toNatClampNeg))] w Q7 ∧ ∀ v8 w9, Q7 v8 w9 →
((¬ v8 = (-1) → (∃ Q10 : Int32 → bw_W → Prop, bw_ri E (d + 5) mX11_tellable [.ref 0] w9 Q10 ∧ ∀ v11 w12, Q10 v11 w12 →
((¬ l2 = 1 → ((¬ l4 = (gw_i (cw_l w12 32 (fun j => if j < 52 then (gw_l w12 34 j) else (gw_l w12 32 j))) l3 0) → Q l4 (cw_l w12 32 (fun j => if j < 52 then (gw_l w12 34 j) else (gw_l w12 32 j)))) ∧ (l4 = (gw_i (cw_l w12 32 (fun j => if j < 52 then (gw_l w12 34 j) else (gw_l w12 32 j))) l3 0) → Q (-1) (cw_l w12 32 (fun j => if j < 52 then (gw_l w12 34 j) else (gw_l w12 32 j)))))) ∧ (l2 = 1 → Q v11 (cw_l w12 32 (fun j => if j < 52 then (gw_l w12 34 j) else (gw_l w12 32 j))))))) ∧ (v8 = (-1) → (vp_in l4 12) ∧
(bw_sh (bw_rf (bw_rf l3 1) (l4.toNatClampNeg)) = (0, 8, 5)) ∧
(∃ Q15 : Int32 → bw_W → Prop, bw_ri E (d + 5) mX8_cell [.ref (bw_rf (bw_rf l3 1) (l4.toNatClampNeg))] w9 Q15 ∧ ∀ v16 w17, Q15 v16 w17 →
(∃ Q18 : Int64 → bw_W → Prop, bw_rl E (d + 5) mX8_value [.ref (bw_rf (bw_rf l3 1) (l4.toNatClampNeg))] w17 Q18 ∧ ∀ v19 w20, Q18 v19 w20 →
(vp_in v16 52) ∧
bw_G E (d + 6) mX11_run 49 [some (.ref 0), some (.int l1), some (.int l2), some (.ref l3), some (.int (l4 + 1)), none] [] (sw_l w20 32 (v16.toNatClampNeg) v19) (bw_qi Q))))))))) : bw_G E (d + 6) mX11_run 49 [some (.ref 0), some (.int l1), some (.int l2), some (.ref l3), some (.int l4), none] [] w (bw_qi Q) := by
  refine bw_iload dX11_run_49 rfl ?_
  refine bw_aload_n (i := 3) dX11_run_51 rfl rfl ?_
  obtain ⟨hs1, h⟩ := h
  refine bw_geti fg_BentWords_400 hs1 dX11_run_52 ?_
  refine bw_icmp_ge (tgt := 106) dX11_run_55 (by decide) (fun c => ?_) (fun c => ?_)
  · replace h := h.1 (c)
    refine bw_aload_n (i := 0) dX11_run_106 rfl rfl ?_
    obtain ⟨Q2, hr, h⟩ := h
    refine bw_cVi (As := []) (st := []) cv_BentWords_325 rfl rfl hr rfl rfl (Nat.le_of_ble_eq_true rfl) dX11_run_107 (fun v3 w4 hv => ?_)
    replace h := h v3 w4 hv
    clear hr
    refine bw_istore (i := 5) (L' := [some (.ref 0), some (.int l1), some (.int l2), some (.ref l3), some (.int l4), some (.int v3)]) dX11_run_110 (Nat.le_of_ble_eq_true rfl) rfl ?_
    refine bw_aload_n (i := 0) dX11_run_112 rfl rfl ?_
    refine bw_getr (r := 31) fg_BentWords_58 rfl rfl dX11_run_113 ?_
    refine bw_aload_n (i := 0) dX11_run_116 rfl rfl ?_
    refine bw_getr (r := 33) fg_BentWords_62 rfl rfl dX11_run_117 ?_
    refine bw_cVv (As := [.ref 33]) (st := []) (Q' := (fun w1 => (cw_l w4 32 (fun j => if j < 52 then (gw_l w4 34 j) else (gw_l w4 32 j))) = w1)) cv_BentWords_294 rfl rfl (fs_X7_copyFrom_sa (d := d + 4)   rfl) rfl rfl (Nat.le_of_ble_eq_true rfl) dX11_run_120 (fun w1 hv => ?_)
    subst hv
    refine bw_iload_n (i := 2) dX11_run_123 rfl rfl ?_
    refine bw_iconst (v := 1) dX11_run_124 (by decide) ?_
    refine bw_icmp_ne (tgt := 131) dX11_run_125 (by decide) (fun c => ?_) (fun c => ?_)
    · replace h := h.1 (c)
      refine bw_iload dX11_run_131 rfl ?_
      refine bw_aload_n (i := 3) dX11_run_133 rfl rfl ?_
      refine bw_geti fg_BentWords_400 hs1 dX11_run_134 ?_
      refine bw_icmp_ne (tgt := 144) dX11_run_137 (by decide) (fun c => ?_) (fun c => ?_)
      · replace h := h.1 (c)
        refine bw_iload dX11_run_144 rfl ?_
        exact bw_ireturn dX11_run_146 rfl rfl ⟨_, rfl, h⟩
      · replace h := h.2 (c)
        refine bw_iconst (v := (-1)) dX11_run_140 (by decide) ?_
        refine bw_goto (tgt := 146) dX11_run_141 (by decide) ?_
        exact bw_ireturn dX11_run_146 rfl rfl ⟨_, rfl, h⟩
    · replace h := h.2 (c)
      refine bw_iload dX11_run_128 rfl ?_
      exact bw_ireturn dX11_run_130 rfl rfl ⟨_, rfl, h⟩
  · replace h := h.2 (c)
    refine bw_aload_n (i := 0) dX11_run_58 rfl rfl ?_
    refine bw_aload_n (i := 3) dX11_run_59 rfl rfl ?_
    refine bw_getr (r := (bw_rf l3 1)) fg_BentWords_401 hs1 rfl dX11_run_60 ?_
    refine bw_iload dX11_run_63 rfl ?_
    obtain ⟨hs5, h⟩ := h
    obtain ⟨hi6, h⟩ := h
    refine bw_aaload5 (r := (bw_rf (bw_rf l3 1) (l4.toNatClampNeg))) hs5 hi6 rfl dX11_run_65 ?_
    obtain ⟨Q7, hr, h⟩ := h
    refine bw_cVi (As := [.ref (bw_rf (bw_rf l3 1) (l4.toNatClampNeg))]) (st := []) cv_BentWords_356 rfl rfl hr rfl rfl (Nat.le_of_ble_eq_true rfl) dX11_run_66 (fun v8 w9 hv => ?_)
    replace h := h v8 w9 hv
    clear hr
    refine bw_iconst (v := (-1)) dX11_run_69 (by decide) ?_
    refine bw_icmp_ne (tgt := 106) dX11_run_70 (by decide) (fun c => ?_) (fun c => ?_)
    · replace h := h.1 (c)
      refine bw_aload_n (i := 0) dX11_run_106 rfl rfl ?_
      obtain ⟨Q10, hr, h⟩ := h
      refine bw_cVi (As := []) (st := []) cv_BentWords_325 rfl rfl hr rfl rfl (Nat.le_of_ble_eq_true rfl) dX11_run_107 (fun v11 w12 hv => ?_)
      replace h := h v11 w12 hv
      clear hr
      refine bw_istore (i := 5) (L' := [some (.ref 0), some (.int l1), some (.int l2), some (.ref l3), some (.int l4), some (.int v11)]) dX11_run_110 (Nat.le_of_ble_eq_true rfl) rfl ?_
      refine bw_aload_n (i := 0) dX11_run_112 rfl rfl ?_
      refine bw_getr (r := 31) fg_BentWords_58 rfl rfl dX11_run_113 ?_
      refine bw_aload_n (i := 0) dX11_run_116 rfl rfl ?_
      refine bw_getr (r := 33) fg_BentWords_62 rfl rfl dX11_run_117 ?_
      refine bw_cVv (As := [.ref 33]) (st := []) (Q' := (fun w1 => (cw_l w12 32 (fun j => if j < 52 then (gw_l w12 34 j) else (gw_l w12 32 j))) = w1)) cv_BentWords_294 rfl rfl (fs_X7_copyFrom_sa (d := d + 4)   rfl) rfl rfl (Nat.le_of_ble_eq_true rfl) dX11_run_120 (fun w1 hv => ?_)
      subst hv
      refine bw_iload_n (i := 2) dX11_run_123 rfl rfl ?_
      refine bw_iconst (v := 1) dX11_run_124 (by decide) ?_
      refine bw_icmp_ne (tgt := 131) dX11_run_125 (by decide) (fun c => ?_) (fun c => ?_)
      · replace h := h.1 (c)
        refine bw_iload dX11_run_131 rfl ?_
        refine bw_aload_n (i := 3) dX11_run_133 rfl rfl ?_
        refine bw_geti fg_BentWords_400 hs1 dX11_run_134 ?_
        refine bw_icmp_ne (tgt := 144) dX11_run_137 (by decide) (fun c => ?_) (fun c => ?_)
        · replace h := h.1 (c)
          refine bw_iload dX11_run_144 rfl ?_
          exact bw_ireturn dX11_run_146 rfl rfl ⟨_, rfl, h⟩
        · replace h := h.2 (c)
          refine bw_iconst (v := (-1)) dX11_run_140 (by decide) ?_
          refine bw_goto (tgt := 146) dX11_run_141 (by decide) ?_
          exact bw_ireturn dX11_run_146 rfl rfl ⟨_, rfl, h⟩
      · replace h := h.2 (c)
        refine bw_iload dX11_run_128 rfl ?_
        exact bw_ireturn dX11_run_130 rfl rfl ⟨_, rfl, h⟩
    · replace h := h.2 (c)
      refine bw_aload_n (i := 3) dX11_run_73 rfl rfl ?_
      refine bw_getr (r := (bw_rf l3 1)) fg_BentWords_401 hs1 rfl dX11_run_74 ?_
      refine bw_iload dX11_run_77 rfl ?_
      obtain ⟨hi13, h⟩ := h
      refine bw_aaload5 (r := (bw_rf (bw_rf l3 1) (l4.toNatClampNeg))) hs5 hi13 rfl dX11_run_79 ?_
      refine bw_astore (i := 5) (L' := [some (.ref 0), some (.int l1), some (.int l2), some (.ref l3), some (.int l4), some (.ref (bw_rf (bw_rf l3 1) (l4.toNatClampNeg)))]) dX11_run_80 (Nat.le_of_ble_eq_true rfl) rfl ?_
      refine bw_aload_n (i := 0) dX11_run_82 rfl rfl ?_
      refine bw_getr (r := 31) fg_BentWords_58 rfl rfl dX11_run_83 ?_
      refine bw_getr (r := 32) fg_BentWords_170 rfl rfl dX11_run_86 ?_
      refine bw_aload dX11_run_89 rfl ?_
      obtain ⟨hs14, h⟩ := h
      obtain ⟨Q15, hr, h⟩ := h
      refine bw_cVi (As := []) (st := [.ref 32]) cv_BentWords_360 hs14 rfl hr rfl rfl (Nat.le_of_ble_eq_true rfl) dX11_run_91 (fun v16 w17 hv => ?_)
      replace h := h v16 w17 hv
      clear hr
      refine bw_aload dX11_run_94 rfl ?_
      obtain ⟨Q18, hr, h⟩ := h
      refine bw_cVl (As := []) (st := [.int v16, .ref 32]) cv_BentWords_363 hs14 rfl hr rfl rfl (Nat.le_of_ble_eq_true rfl) dX11_run_96 (fun v19 w20 hv => ?_)
      replace h := h v19 w20 hv
      clear hr
      obtain ⟨hi21, h⟩ := h
      refine bw_lastore rfl hi21 dX11_run_99 ?_
      refine bw_iinc (i := 4) (x := l4) (v := (l4 + 1)) (L' := [some (.ref 0), some (.int l1), some (.int l2), some (.ref l3), some (.int (l4 + 1)), some (.ref (bw_rf (bw_rf l3 1) (l4.toNatClampNeg)))]) dX11_run_100 rfl rfl (Nat.le_of_ble_eq_true rfl) rfl ?_
      refine bw_goto (tgt := 49) dX11_run_103 (by decide) ?_
      exact bw_wk [5] rfl h
theorem wfX11_run {E : bw_E} {d : Nat} {w : bw_W} {Q : Int32 → bw_W → Prop} {a0 : Int32} {a1 : Int32}  (h : (((gw_i w 0 5) = 0 → Q (-1000000) w) ∧ (¬ ((gw_i w 0 5) = 0) → ((¬ ((¬ (a0 < 0)) ∧ (¬ ((gw_i w 0 7) ≤ a0))) → Q (-1000000) w) ∧ ((¬ (a0 < 0)) ∧ (¬ ((gw_i w 0 7) ≤ a0)) → ((a1 < 0 → Q (-1000000) w) ∧ (¬ (a1 < 0) → ((a1 ≤ 1 → (vp_in a0 5) ∧
bw_G E (d + 6) mX11_run 49 [some (.ref 0), some (.int a0), some (.int a1), some (.ref (bw_rf 30 (a0.toNatClampNeg))), some (.int 0), none] [] (cw_l w 34 (fun j => if j < 52 then (gw_l w 32 j) else (gw_l w 34 j))) (bw_qi Q)) ∧ (¬ (a1 ≤ 1) → Q (-1000000) w))))))))) : bw_ri E (d + 6) mX11_run [.ref 0, .int a0, .int a1] w Q := by
  refine bw_enter rfl (Nat.le_of_ble_eq_true rfl) ?_
  refine bw_aload_n (i := 0) dX11_run_0 rfl rfl ?_
  refine bw_geti fg_BentWords_140 rfl dX11_run_1 ?_
  refine bw_if_eq (tgt := 24) dX11_run_4 (by decide) (fun c => ?_) (fun c => ?_)
  · replace h := h.1 (c)
    refine bw_ldcw ki_BentWords_345 dX11_run_24 ?_
    exact bw_ireturn dX11_run_27 rfl rfl ⟨_, rfl, h⟩
  · replace h := h.2 (c)
    refine bw_aload_n (i := 0) dX11_run_7 rfl rfl ?_
    refine bw_iload_n (i := 1) dX11_run_8 rfl rfl ?_
    refine bw_cVb (As := [.int a0]) (st := []) (Q' := (fun v w1 => (decide ((¬ (a0 < 0)) ∧ (¬ ((gw_i w 0 7) ≤ a0)))) = v ∧ w = w1)) cv_BentWords_397 rfl rfl (fs_X11_hasScript (d := d + 5) (a0 := a0)  ⟨rfl, rfl⟩) rfl rfl (Nat.le_of_ble_eq_true rfl) dX11_run_9 (fun v w1 hv => ?_)
    obtain ⟨rfl, rfl⟩ := hv
    refine bw_ifb_eq (tgt := 24) dX11_run_12 (by decide) (fun c => ?_) (fun c => ?_)
    · replace h := h.1 (of_decide_eq_false c)
      refine bw_ldcw ki_BentWords_345 dX11_run_24 ?_
      exact bw_ireturn dX11_run_27 rfl rfl ⟨_, rfl, h⟩
    · replace h := h.2 (of_decide_eq_true c)
      refine bw_iload_n (i := 2) dX11_run_15 rfl rfl ?_
      refine bw_if_lt (tgt := 24) dX11_run_16 (by decide) (fun c => ?_) (fun c => ?_)
      · replace h := h.1 (c)
        refine bw_ldcw ki_BentWords_345 dX11_run_24 ?_
        exact bw_ireturn dX11_run_27 rfl rfl ⟨_, rfl, h⟩
      · replace h := h.2 (c)
        refine bw_iload_n (i := 2) dX11_run_19 rfl rfl ?_
        refine bw_iconst (v := 1) dX11_run_20 (by decide) ?_
        refine bw_icmp_le (tgt := 28) dX11_run_21 (by decide) (fun c => ?_) (fun c => ?_)
        · replace h := h.1 (c)
          refine bw_aload_n (i := 0) dX11_run_28 rfl rfl ?_
          refine bw_getr (r := 30) fg_BentWords_50 rfl rfl dX11_run_29 ?_
          refine bw_iload_n (i := 1) dX11_run_32 rfl rfl ?_
          obtain ⟨hi1, h⟩ := h
          refine bw_aaload4 (r := (bw_rf 30 (a0.toNatClampNeg))) rfl hi1 rfl dX11_run_33 ?_
          refine bw_astore_n (i := 3) (L' := [some (.ref 0), some (.int a0), some (.int a1), some (.ref (bw_rf 30 (a0.toNatClampNeg))), none, none]) dX11_run_34 rfl (Nat.le_of_ble_eq_true rfl) rfl ?_
          refine bw_aload_n (i := 0) dX11_run_35 rfl rfl ?_
          refine bw_getr (r := 33) fg_BentWords_62 rfl rfl dX11_run_36 ?_
          refine bw_aload_n (i := 0) dX11_run_39 rfl rfl ?_
          refine bw_getr (r := 31) fg_BentWords_58 rfl rfl dX11_run_40 ?_
          refine bw_cVv (As := [.ref 31]) (st := []) (Q' := (fun w1 => (cw_l w 34 (fun j => if j < 52 then (gw_l w 32 j) else (gw_l w 34 j))) = w1)) cv_BentWords_294 rfl rfl (fs_X7_copyFrom_as (d := d + 4)   rfl) rfl rfl (Nat.le_of_ble_eq_true rfl) dX11_run_43 (fun w1 hv => ?_)
          subst hv
          refine bw_iconst (v := 0) dX11_run_46 (by decide) ?_
          refine bw_istore (i := 4) (L' := [some (.ref 0), some (.int a0), some (.int a1), some (.ref (bw_rf 30 (a0.toNatClampNeg))), some (.int 0), none]) dX11_run_47 (Nat.le_of_ble_eq_true rfl) rfl ?_
          exact h
        · replace h := h.2 (c)
          refine bw_ldcw ki_BentWords_345 dX11_run_24 ?_
          exact bw_ireturn dX11_run_27 rfl rfl ⟨_, rfl, h⟩
theorem wfX11_perform_26 {E : bw_E} {d : Nat} {w : bw_W} {Q : Int32 → bw_W → Prop} {l1 : Int32} {l2 : Nat} {l3 : Int32}  (h : (bw_sh l2 = (0, 5, 2)) ∧
(((gw_i w l2 0) ≤ l3 → Q l3 w) ∧ (¬ ((gw_i w l2 0) ≤ l3) → (bw_sh (bw_rf l2 1) = (5, 12, 0)) ∧
(vp_in l3 12) ∧
(∃ Q4 : Bool → bw_W → Prop, bw_rb E (d + 5) mX11_act [.ref 0, .ref (bw_rf (bw_rf l2 1) (l3.toNatClampNeg)), .int 0] w Q4 ∧ ∀ v5 w6, Q4 v5 w6 →
((v5 = false → Q l3 w6) ∧ (v5 = true → bw_G E (d + 6) mX11_perform 26 [some (.ref 0), some (.int l1), some (.ref l2), some (.int (l3 + 1))] [] w6 (bw_qi Q))))))) : bw_G E (d + 6) mX11_perform 26 [some (.ref 0), some (.int l1), some (.ref l2), some (.int l3)] [] w (bw_qi Q) := by
  refine bw_iload_n (i := 3) dX11_perform_26 rfl rfl ?_
  refine bw_aload_n (i := 2) dX11_perform_27 rfl rfl ?_
  obtain ⟨hs1, h⟩ := h
  refine bw_geti fg_BentWords_400 hs1 dX11_perform_28 ?_
  refine bw_icmp_ge (tgt := 54) dX11_perform_31 (by decide) (fun c => ?_) (fun c => ?_)
  · replace h := h.1 (c)
    refine bw_iload_n (i := 3) dX11_perform_54 rfl rfl ?_
    exact bw_ireturn dX11_perform_55 rfl rfl ⟨_, rfl, h⟩
  · replace h := h.2 (c)
    refine bw_aload_n (i := 0) dX11_perform_34 rfl rfl ?_
    refine bw_aload_n (i := 2) dX11_perform_35 rfl rfl ?_
    refine bw_getr (r := (bw_rf l2 1)) fg_BentWords_401 hs1 rfl dX11_perform_36 ?_
    refine bw_iload_n (i := 3) dX11_perform_39 rfl rfl ?_
    obtain ⟨hs2, h⟩ := h
    obtain ⟨hi3, h⟩ := h
    refine bw_aaload5 (r := (bw_rf (bw_rf l2 1) (l3.toNatClampNeg))) hs2 hi3 rfl dX11_perform_40 ?_
    refine bw_iconst (v := 0) dX11_perform_41 (by decide) ?_
    obtain ⟨Q4, hr, h⟩ := h
    refine bw_cVb (As := [.ref (bw_rf (bw_rf l2 1) (l3.toNatClampNeg)), .int 0]) (st := []) cv_BentWords_321 rfl rfl hr rfl rfl (Nat.le_of_ble_eq_true rfl) dX11_perform_42 (fun v5 w6 hv => ?_)
    replace h := h v5 w6 hv
    clear hr
    refine bw_ifb_eq (tgt := 54) dX11_perform_45 (by decide) (fun c => ?_) (fun c => ?_)
    · replace h := h.1 (c)
      refine bw_iload_n (i := 3) dX11_perform_54 rfl rfl ?_
      exact bw_ireturn dX11_perform_55 rfl rfl ⟨_, rfl, h⟩
    · replace h := h.2 (c)
      refine bw_iinc (i := 3) (x := l3) (v := (l3 + 1)) (L' := [some (.ref 0), some (.int l1), some (.ref l2), some (.int (l3 + 1))]) dX11_perform_48 rfl rfl (Nat.le_of_ble_eq_true rfl) rfl ?_
      refine bw_goto (tgt := 26) dX11_perform_51 (by decide) ?_
      exact h
theorem wfX11_perform {E : bw_E} {d : Nat} {w : bw_W} {Q : Int32 → bw_W → Prop} {a0 : Int32}  (h : (((gw_i w 0 5) = 0 → Q (-1) w) ∧ (¬ ((gw_i w 0 5) = 0) → (((¬ (a0 < 0)) ∧ (¬ ((gw_i w 0 7) ≤ a0)) → (vp_in a0 5) ∧
bw_G E (d + 6) mX11_perform 26 [some (.ref 0), some (.int a0), some (.ref (bw_rf 30 (a0.toNatClampNeg))), some (.int 0)] [] w (bw_qi Q)) ∧ (¬ ((¬ (a0 < 0)) ∧ (¬ ((gw_i w 0 7) ≤ a0))) → Q (-1) w))))) : bw_ri E (d + 6) mX11_perform [.ref 0, .int a0] w Q := by
  refine bw_enter rfl (Nat.le_of_ble_eq_true rfl) ?_
  refine bw_aload_n (i := 0) dX11_perform_0 rfl rfl ?_
  refine bw_geti fg_BentWords_140 rfl dX11_perform_1 ?_
  refine bw_if_eq (tgt := 15) dX11_perform_4 (by decide) (fun c => ?_) (fun c => ?_)
  · replace h := h.1 (c)
    refine bw_iconst (v := (-1)) dX11_perform_15 (by decide) ?_
    exact bw_ireturn dX11_perform_16 rfl rfl ⟨_, rfl, h⟩
  · replace h := h.2 (c)
    refine bw_aload_n (i := 0) dX11_perform_7 rfl rfl ?_
    refine bw_iload_n (i := 1) dX11_perform_8 rfl rfl ?_
    refine bw_cVb (As := [.int a0]) (st := []) (Q' := (fun v w1 => (decide ((¬ (a0 < 0)) ∧ (¬ ((gw_i w 0 7) ≤ a0)))) = v ∧ w = w1)) cv_BentWords_397 rfl rfl (fs_X11_hasScript (d := d + 5) (a0 := a0)  ⟨rfl, rfl⟩) rfl rfl (Nat.le_of_ble_eq_true rfl) dX11_perform_9 (fun v w1 hv => ?_)
    obtain ⟨rfl, rfl⟩ := hv
    refine bw_ifb_ne (tgt := 17) dX11_perform_12 (by decide) (fun c => ?_) (fun c => ?_)
    · replace h := h.1 (of_decide_eq_true c)
      refine bw_aload_n (i := 0) dX11_perform_17 rfl rfl ?_
      refine bw_getr (r := 30) fg_BentWords_50 rfl rfl dX11_perform_18 ?_
      refine bw_iload_n (i := 1) dX11_perform_21 rfl rfl ?_
      obtain ⟨hi1, h⟩ := h
      refine bw_aaload4 (r := (bw_rf 30 (a0.toNatClampNeg))) rfl hi1 rfl dX11_perform_22 ?_
      refine bw_astore_n (i := 2) (L' := [some (.ref 0), some (.int a0), some (.ref (bw_rf 30 (a0.toNatClampNeg))), none]) dX11_perform_23 rfl (Nat.le_of_ble_eq_true rfl) rfl ?_
      refine bw_iconst (v := 0) dX11_perform_24 (by decide) ?_
      refine bw_istore_n (i := 3) (L' := [some (.ref 0), some (.int a0), some (.ref (bw_rf 30 (a0.toNatClampNeg))), some (.int 0)]) dX11_perform_25 rfl (Nat.le_of_ble_eq_true rfl) rfl ?_
      exact h
    · replace h := h.2 (of_decide_eq_false c)
      refine bw_iconst (v := (-1)) dX11_perform_15 (by decide) ?_
      exact bw_ireturn dX11_perform_16 rfl rfl ⟨_, rfl, h⟩
theorem wfX11_most {E : bw_E} {d : Nat} {w : bw_W} {Q : Int32 → bw_W → Prop} {a0 : Int32}  (h : ((¬ (gw_i w 0 5) = 0 → ((a0 = 0 → (∃ Q1 : Int32 → bw_W → Prop, bw_ri E (d + 5) mX10_longest [.ref 35] w Q1 ∧ ∀ v2 w3, Q1 v2 w3 →
Q v2 w3)) ∧ (a0 = 1 → (∃ Q4 : Int32 → bw_W → Prop, bw_ri E (d + 5) mX10_longest [.ref 35] w Q4 ∧ ∀ v5 w6, Q4 v5 w6 →
((¬ v5 = (-1) → (∃ Q7 : Int32 → bw_W → Prop, bw_ri E (d + 5) mX10_bytesTold [.ref 35, .int v5] w6 Q7 ∧ ∀ v8 w9, Q7 v8 w9 →
Q v8 w9)) ∧ (v5 = (-1) → Q 0 w6)))) ∧ (a0 = 2 → (∃ Q10 : Int32 → bw_W → Prop, bw_ri E (d + 5) mX11_missingOfAll [.ref 0] w Q10 ∧ ∀ v11 w12, Q10 v11 w12 →
Q v11 w12)) ∧ (a0 = 3 → (∃ Q13 : Int32 → bw_W → Prop, bw_ri E (d + 5) mX11_nounOfFewestForms [.ref 0] w Q13 ∧ ∀ v14 w15, Q13 v14 w15 →
Q v14 w15)) ∧ (a0 = 4 → (∃ Q16 : Int32 → bw_W → Prop, bw_ri E (d + 5) mX11_filledHoles [.ref 0] w Q16 ∧ ∀ v17 w18, Q16 v17 w18 →
Q v17 w18)) ∧ (a0 = 5 → (∃ Q19 : Int32 → bw_W → Prop, bw_ri E (d + 5) mX11_formsToldTwice [.ref 0] w Q19 ∧ ∀ v20 w21, Q19 v20 w21 →
Q v20 w21)) ∧ (a0.toInt < 0 ∨ 5 < a0.toInt → ((a0 < 6 → Q (-1000000) w) ∧ (¬ (a0 < 6) → ((10 < a0 → Q (-1000000) w) ∧ (¬ (10 < a0) → (∃ Q22 : Int32 → bw_W → Prop, bw_ri E (d + 5) mX10_messagesWithWhy [.ref 35, .int (a0 - 6)] w Q22 ∧ ∀ v23 w24, Q22 v23 w24 →
Q v23 w24)))))))) ∧ ((gw_i w 0 5) = 0 → Q (-1000000) w))) : bw_ri E (d + 6) mX11_most [.ref 0, .int a0] w Q := by
  refine bw_enter rfl (Nat.le_of_ble_eq_true rfl) ?_
  refine bw_aload_n (i := 0) dX11_most_0 rfl rfl ?_
  refine bw_geti fg_BentWords_140 rfl dX11_most_1 ?_
  refine bw_if_ne (tgt := 11) dX11_most_4 (by decide) (fun c => ?_) (fun c => ?_)
  · replace h := h.1 (c)
    refine bw_iload_n (i := 1) dX11_most_11 rfl rfl ?_
    refine bw_tabsw dX11_most_12 [52, 60, 86, 91, 96, 101] 106 (by decide) rfl rfl (fun j hj hx => ?_) (fun hx => ?_)
    · match j, hj, hx with
      | 0, _, hx =>
        replace h := h.1 (bw_ti hx (by decide))
        refine bw_aload_n (i := 0) dX11_most_52 rfl rfl ?_
        refine bw_getr (r := 35) fg_BentWords_70 rfl rfl dX11_most_53 ?_
        obtain ⟨Q1, hr, h⟩ := h
        refine bw_cVi (As := []) (st := []) cv_BentWords_408 rfl rfl hr rfl rfl (Nat.le_of_ble_eq_true rfl) dX11_most_56 (fun v2 w3 hv => ?_)
        replace h := h v2 w3 hv
        clear hr
        exact bw_ireturn dX11_most_59 rfl rfl ⟨_, rfl, h⟩
      | 1, _, hx =>
        replace h := h.2.1 (bw_ti hx (by decide))
        refine bw_aload_n (i := 0) dX11_most_60 rfl rfl ?_
        refine bw_getr (r := 35) fg_BentWords_70 rfl rfl dX11_most_61 ?_
        obtain ⟨Q4, hr, h⟩ := h
        refine bw_cVi (As := []) (st := []) cv_BentWords_408 rfl rfl hr rfl rfl (Nat.le_of_ble_eq_true rfl) dX11_most_64 (fun v5 w6 hv => ?_)
        replace h := h v5 w6 hv
        clear hr
        refine bw_istore_n (i := 2) (L' := [some (.ref 0), some (.int a0), some (.int v5)]) dX11_most_67 rfl (Nat.le_of_ble_eq_true rfl) rfl ?_
        refine bw_iload_n (i := 2) dX11_most_68 rfl rfl ?_
        refine bw_iconst (v := (-1)) dX11_most_69 (by decide) ?_
        refine bw_icmp_ne (tgt := 77) dX11_most_70 (by decide) (fun c => ?_) (fun c => ?_)
        · replace h := h.1 (c)
          refine bw_aload_n (i := 0) dX11_most_77 rfl rfl ?_
          refine bw_getr (r := 35) fg_BentWords_70 rfl rfl dX11_most_78 ?_
          refine bw_iload_n (i := 2) dX11_most_81 rfl rfl ?_
          obtain ⟨Q7, hr, h⟩ := h
          refine bw_cVi (As := [.int v5]) (st := []) cv_BentWords_247 rfl rfl hr rfl rfl (Nat.le_of_ble_eq_true rfl) dX11_most_82 (fun v8 w9 hv => ?_)
          replace h := h v8 w9 hv
          clear hr
          exact bw_ireturn dX11_most_85 rfl rfl ⟨_, rfl, h⟩
        · replace h := h.2 (c)
          refine bw_iconst (v := 0) dX11_most_73 (by decide) ?_
          refine bw_goto (tgt := 85) dX11_most_74 (by decide) ?_
          exact bw_ireturn dX11_most_85 rfl rfl ⟨_, rfl, h⟩
      | 2, _, hx =>
        replace h := h.2.2.1 (bw_ti hx (by decide))
        refine bw_aload_n (i := 0) dX11_most_86 rfl rfl ?_
        obtain ⟨Q10, hr, h⟩ := h
        refine bw_cVi (As := []) (st := []) cv_BentWords_411 rfl rfl hr rfl rfl (Nat.le_of_ble_eq_true rfl) dX11_most_87 (fun v11 w12 hv => ?_)
        replace h := h v11 w12 hv
        clear hr
        exact bw_ireturn dX11_most_90 rfl rfl ⟨_, rfl, h⟩
      | 3, _, hx =>
        replace h := h.2.2.2.1 (bw_ti hx (by decide))
        refine bw_aload_n (i := 0) dX11_most_91 rfl rfl ?_
        obtain ⟨Q13, hr, h⟩ := h
        refine bw_cVi (As := []) (st := []) cv_BentWords_414 rfl rfl hr rfl rfl (Nat.le_of_ble_eq_true rfl) dX11_most_92 (fun v14 w15 hv => ?_)
        replace h := h v14 w15 hv
        clear hr
        exact bw_ireturn dX11_most_95 rfl rfl ⟨_, rfl, h⟩
      | 4, _, hx =>
        replace h := h.2.2.2.2.1 (bw_ti hx (by decide))
        refine bw_aload_n (i := 0) dX11_most_96 rfl rfl ?_
        obtain ⟨Q16, hr, h⟩ := h
        refine bw_cVi (As := []) (st := []) cv_BentWords_417 rfl rfl hr rfl rfl (Nat.le_of_ble_eq_true rfl) dX11_most_97 (fun v17 w18 hv => ?_)
        replace h := h v17 w18 hv
        clear hr
        exact bw_ireturn dX11_most_100 rfl rfl ⟨_, rfl, h⟩
      | 5, _, hx =>
        replace h := h.2.2.2.2.2.1 (bw_ti hx (by decide))
        refine bw_aload_n (i := 0) dX11_most_101 rfl rfl ?_
        obtain ⟨Q19, hr, h⟩ := h
        refine bw_cVi (As := []) (st := []) cv_BentWords_420 rfl rfl hr rfl rfl (Nat.le_of_ble_eq_true rfl) dX11_most_102 (fun v20 w21 hv => ?_)
        replace h := h v20 w21 hv
        clear hr
        exact bw_ireturn dX11_most_105 rfl rfl ⟨_, rfl, h⟩
      | j + 6, hj, _ => exact absurd hj (by simp)
    · replace h := h.2.2.2.2.2.2 hx
      refine bw_iload_n (i := 1) dX11_most_106 rfl rfl ?_
      refine bw_bipush (v := 6) dX11_most_107 (by decide) ?_
      refine bw_icmp_lt (tgt := 132) dX11_most_109 (by decide) (fun c => ?_) (fun c => ?_)
      · replace h := h.1 (c)
        refine bw_ldcw ki_BentWords_345 dX11_most_132 ?_
        exact bw_ireturn dX11_most_135 rfl rfl ⟨_, rfl, h⟩
      · replace h := h.2 (c)
        refine bw_iload_n (i := 1) dX11_most_112 rfl rfl ?_
        refine bw_bipush (v := 10) dX11_most_113 (by decide) ?_
        refine bw_icmp_gt (tgt := 132) dX11_most_115 (by decide) (fun c => ?_) (fun c => ?_)
        · replace h := h.1 (c)
          refine bw_ldcw ki_BentWords_345 dX11_most_132 ?_
          exact bw_ireturn dX11_most_135 rfl rfl ⟨_, rfl, h⟩
        · replace h := h.2 (c)
          refine bw_aload_n (i := 0) dX11_most_118 rfl rfl ?_
          refine bw_getr (r := 35) fg_BentWords_70 rfl rfl dX11_most_119 ?_
          refine bw_iload_n (i := 1) dX11_most_122 rfl rfl ?_
          refine bw_bipush (v := 6) dX11_most_123 (by decide) ?_
          refine bw_isub dX11_most_125 ?_
          obtain ⟨Q22, hr, h⟩ := h
          refine bw_cVi (As := [.int (a0 - 6)]) (st := []) cv_BentWords_423 rfl rfl hr rfl rfl (Nat.le_of_ble_eq_true rfl) dX11_most_126 (fun v23 w24 hv => ?_)
          replace h := h v23 w24 hv
          clear hr
          refine bw_goto (tgt := 135) dX11_most_129 (by decide) ?_
          exact bw_ireturn dX11_most_135 rfl rfl ⟨_, rfl, h⟩
  · replace h := h.2 (c)
    refine bw_ldcw ki_BentWords_345 dX11_most_7 ?_
    exact bw_ireturn dX11_most_10 rfl rfl ⟨_, rfl, h⟩
theorem wfX11_image {E : bw_E} {d : Nat} {w : bw_W} {Q : Int32 → bw_W → Prop}   (h : ((¬ (gw_i w 0 5) = 0 → (∃ Q1 : Int32 → bw_W → Prop, bw_ri E (d + 5) mX11_tellable [.ref 0] (sw_i (sw_i (sw_i (cw_i (cw_l w 42 (fun j => if j < 52 then (gw_l w 32 j) else (gw_l w 42 j))) 44 (fun j => if j < 100 then (gw_i (cw_l w 42 (fun j => if j < 52 then (gw_l w 32 j) else (gw_l w 42 j))) 38 j) else (gw_i (cw_l w 42 (fun j => if j < 52 then (gw_l w 32 j) else (gw_l w 42 j))) 44 j))) 43 1 (gw_i (cw_l w 42 (fun j => if j < 52 then (gw_l w 32 j) else (gw_l w 42 j))) 37 1)) 43 4 0) 0 14 1) Q1 ∧ ∀ v2 w3, Q1 v2 w3 →
Q v2 w3)) ∧ ((gw_i w 0 5) = 0 → Q (-1) w))) : bw_ri E (d + 6) mX11_image [.ref 0] w Q := by
  refine bw_enter rfl (Nat.le_of_ble_eq_true rfl) ?_
  refine bw_aload_n (i := 0) dX11_image_0 rfl rfl ?_
  refine bw_geti fg_BentWords_140 rfl dX11_image_1 ?_
  refine bw_if_ne (tgt := 9) dX11_image_4 (by decide) (fun c => ?_) (fun c => ?_)
  · replace h := h.1 (c)
    refine bw_aload_n (i := 0) dX11_image_9 rfl rfl ?_
    refine bw_getr (r := 41) fg_BentWords_81 rfl rfl dX11_image_10 ?_
    refine bw_aload_n (i := 0) dX11_image_13 rfl rfl ?_
    refine bw_getr (r := 31) fg_BentWords_58 rfl rfl dX11_image_14 ?_
    refine bw_cVv (As := [.ref 31]) (st := []) (Q' := (fun w1 => (cw_l w 42 (fun j => if j < 52 then (gw_l w 32 j) else (gw_l w 42 j))) = w1)) cv_BentWords_294 rfl rfl (fs_X7_copyFrom_im (d := d + 4)   rfl) rfl rfl (Nat.le_of_ble_eq_true rfl) dX11_image_17 (fun w1 hv => ?_)
    subst hv
    refine bw_aload_n (i := 0) dX11_image_20 rfl rfl ?_
    refine bw_getr (r := 43) fg_BentWords_84 rfl rfl dX11_image_21 ?_
    refine bw_aload_n (i := 0) dX11_image_24 rfl rfl ?_
    refine bw_getr (r := 37) fg_BentWords_77 rfl rfl dX11_image_25 ?_
    refine bw_cVv (As := [.ref 37]) (st := []) (Q' := (fun w1 => (sw_i (sw_i (cw_i (cw_l w 42 (fun j => if j < 52 then (gw_l w 32 j) else (gw_l w 42 j))) 44 (fun j => if j < 100 then (gw_i (cw_l w 42 (fun j => if j < 52 then (gw_l w 32 j) else (gw_l w 42 j))) 38 j) else (gw_i (cw_l w 42 (fun j => if j < 52 then (gw_l w 32 j) else (gw_l w 42 j))) 44 j))) 43 1 (gw_i (cw_l w 42 (fun j => if j < 52 then (gw_l w 32 j) else (gw_l w 42 j))) 37 1)) 43 4 0) = w1)) cv_BentWords_429 rfl rfl (fs_X2_copyLogFrom_im (d := d + 4)   rfl) rfl rfl (Nat.le_of_ble_eq_true rfl) dX11_image_28 (fun w1 hv => ?_)
    subst hv
    refine bw_aload_n (i := 0) dX11_image_31 rfl rfl ?_
    refine bw_iconst (v := 1) dX11_image_32 (by decide) ?_
    refine bw_puti fp_BentWords_150 rfl (by decide) (by decide) dX11_image_33 ?_
    refine bw_aload_n (i := 0) dX11_image_36 rfl rfl ?_
    obtain ⟨Q1, hr, h⟩ := h
    refine bw_cVi (As := []) (st := []) cv_BentWords_325 rfl rfl hr rfl rfl (Nat.le_of_ble_eq_true rfl) dX11_image_37 (fun v2 w3 hv => ?_)
    replace h := h v2 w3 hv
    clear hr
    exact bw_ireturn dX11_image_40 rfl rfl ⟨_, rfl, h⟩
  · replace h := h.2 (c)
    refine bw_iconst (v := (-1)) dX11_image_7 (by decide) ?_
    exact bw_ireturn dX11_image_8 rfl rfl ⟨_, rfl, h⟩
theorem wfX11_back {E : bw_E} {d : Nat} {w : bw_W} {Q : Int32 → bw_W → Prop}   (h : (((gw_i w 0 5) = 0 → Q (-1) w) ∧ (¬ ((gw_i w 0 5) = 0) → ((¬ (gw_i w 0 14) = 0 → (∃ Q1 : Int32 → bw_W → Prop, bw_ri E (d + 5) mX11_tellable [.ref 0] (sw_i (sw_i (cw_i (cw_l w 32 (fun j => if j < 52 then (gw_l w 42 j) else (gw_l w 32 j))) 38 (fun j => if j < 100 then (gw_i (cw_l w 32 (fun j => if j < 52 then (gw_l w 42 j) else (gw_l w 32 j))) 44 j) else (gw_i (cw_l w 32 (fun j => if j < 52 then (gw_l w 42 j) else (gw_l w 32 j))) 38 j))) 37 1 (gw_i (cw_l w 32 (fun j => if j < 52 then (gw_l w 42 j) else (gw_l w 32 j))) 43 1)) 37 4 0) Q1 ∧ ∀ v2 w3, Q1 v2 w3 →
Q v2 w3)) ∧ ((gw_i w 0 14) = 0 → Q (-1) w))))) : bw_ri E (d + 6) mX11_back [.ref 0] w Q := by
  refine bw_enter rfl (Nat.le_of_ble_eq_true rfl) ?_
  refine bw_aload_n (i := 0) dX11_back_0 rfl rfl ?_
  refine bw_geti fg_BentWords_140 rfl dX11_back_1 ?_
  refine bw_if_eq (tgt := 14) dX11_back_4 (by decide) (fun c => ?_) (fun c => ?_)
  · replace h := h.1 (c)
    refine bw_iconst (v := (-1)) dX11_back_14 (by decide) ?_
    exact bw_ireturn dX11_back_15 rfl rfl ⟨_, rfl, h⟩
  · replace h := h.2 (c)
    refine bw_aload_n (i := 0) dX11_back_7 rfl rfl ?_
    refine bw_geti fg_BentWords_150 rfl dX11_back_8 ?_
    refine bw_if_ne (tgt := 16) dX11_back_11 (by decide) (fun c => ?_) (fun c => ?_)
    · replace h := h.1 (c)
      refine bw_aload_n (i := 0) dX11_back_16 rfl rfl ?_
      refine bw_getr (r := 31) fg_BentWords_58 rfl rfl dX11_back_17 ?_
      refine bw_aload_n (i := 0) dX11_back_20 rfl rfl ?_
      refine bw_getr (r := 41) fg_BentWords_81 rfl rfl dX11_back_21 ?_
      refine bw_cVv (As := [.ref 41]) (st := []) (Q' := (fun w1 => (cw_l w 32 (fun j => if j < 52 then (gw_l w 42 j) else (gw_l w 32 j))) = w1)) cv_BentWords_294 rfl rfl (fs_X7_copyFrom_bk (d := d + 4)   rfl) rfl rfl (Nat.le_of_ble_eq_true rfl) dX11_back_24 (fun w1 hv => ?_)
      subst hv
      refine bw_aload_n (i := 0) dX11_back_27 rfl rfl ?_
      refine bw_getr (r := 37) fg_BentWords_77 rfl rfl dX11_back_28 ?_
      refine bw_aload_n (i := 0) dX11_back_31 rfl rfl ?_
      refine bw_getr (r := 43) fg_BentWords_84 rfl rfl dX11_back_32 ?_
      refine bw_cVv (As := [.ref 43]) (st := []) (Q' := (fun w1 => (sw_i (sw_i (cw_i (cw_l w 32 (fun j => if j < 52 then (gw_l w 42 j) else (gw_l w 32 j))) 38 (fun j => if j < 100 then (gw_i (cw_l w 32 (fun j => if j < 52 then (gw_l w 42 j) else (gw_l w 32 j))) 44 j) else (gw_i (cw_l w 32 (fun j => if j < 52 then (gw_l w 42 j) else (gw_l w 32 j))) 38 j))) 37 1 (gw_i (cw_l w 32 (fun j => if j < 52 then (gw_l w 42 j) else (gw_l w 32 j))) 43 1)) 37 4 0) = w1)) cv_BentWords_429 rfl rfl (fs_X2_copyLogFrom_bk (d := d + 4)   rfl) rfl rfl (Nat.le_of_ble_eq_true rfl) dX11_back_35 (fun w1 hv => ?_)
      subst hv
      refine bw_aload_n (i := 0) dX11_back_38 rfl rfl ?_
      obtain ⟨Q1, hr, h⟩ := h
      refine bw_cVi (As := []) (st := []) cv_BentWords_325 rfl rfl hr rfl rfl (Nat.le_of_ble_eq_true rfl) dX11_back_39 (fun v2 w3 hv => ?_)
      replace h := h v2 w3 hv
      clear hr
      exact bw_ireturn dX11_back_42 rfl rfl ⟨_, rfl, h⟩
    · replace h := h.2 (c)
      refine bw_iconst (v := (-1)) dX11_back_14 (by decide) ?_
      exact bw_ireturn dX11_back_15 rfl rfl ⟨_, rfl, h⟩
theorem wfX12_readMessage_63 {E : bw_E} {d : Nat} {w : bw_W} {Q : bw_W → Prop} {l1 : Int32} {l2 : Int64} {l4 : Int32} {l5 : Int32}  (h : ((l5 = 0 → Q (sw_i w 50 21 ((gw_i w 50 21) + 1))) ∧ (¬ (l5 = 0) → (∃ Q1 : bw_W → Prop, bw_rv E (d + 5) mX12_readItem [.ref 50, .int l4] w Q1 ∧ ∀ w3, Q1 w3 →
((¬ (gw_i w3 50 10) = (-1) → bw_G E (d + 6) mX12_readMessage 63 [some (.ref 50), some (.int l1), some (.long l2), none, some (.int l4), some (.int 0)] [] w3 (bw_qv Q)) ∧ ((gw_i w3 50 10) = (-1) → (((gw_i w3 50 4) = 0 → bw_G E (d + 6) mX12_readMessage 63 [some (.ref 50), some (.int l1), some (.long l2), none, some (.int l4), some (.int 0)] [] w3 (bw_qv Q)) ∧ (¬ ((gw_i w3 50 4) = 0) → ((((gw_i w3 50 10) = (-1)) ∧ (((gw_i w3 50 4) = 3) ∧ ((gw_i w3 50 8) = 59)) → bw_G E (d + 6) mX12_readMessage 63 [some (.ref 50), some (.int l1), some (.long l2), none, some (.int l4), some (.int 0)] [] w3 (bw_qv Q)) ∧ (¬ (((gw_i w3 50 10) = (-1)) ∧ (((gw_i w3 50 4) = 3) ∧ ((gw_i w3 50 8) = 59))) → bw_G E (d + 6) mX12_readMessage 63 [some (.ref 50), some (.int l1), some (.long l2), none, some (.int l4), some (.int 1)] [] w3 (bw_qv Q))))))))))) : bw_G E (d + 6) mX12_readMessage 63 [some (.ref 50), some (.int l1), some (.long l2), none, some (.int l4), some (.int l5)] [] w (bw_qv Q) := by
  refine bw_iload dX12_readMessage_63 rfl ?_
  refine bw_if_eq (tgt := 108) dX12_readMessage_65 (by decide) (fun c => ?_) (fun c => ?_)
  · replace h := h.1 (c)
    refine bw_aload_n (i := 0) dX12_readMessage_108 rfl rfl ?_
    refine bw_dup dX12_readMessage_109 rfl ?_
    refine bw_geti fg_BentWordsModel_181 rfl dX12_readMessage_110 ?_
    refine bw_iconst (v := 1) dX12_readMessage_113 (by decide) ?_
    refine bw_iadd dX12_readMessage_114 ?_
    refine bw_puti fp_BentWordsModel_181 rfl rfl rfl dX12_readMessage_115 ?_
    exact bw_return dX12_readMessage_118 rfl ⟨rfl, h⟩
  · replace h := h.2 (c)
    refine bw_aload_n (i := 0) dX12_readMessage_68 rfl rfl ?_
    refine bw_iload dX12_readMessage_69 rfl ?_
    obtain ⟨Q1, hr, h⟩ := h
    refine bw_cVv (As := [.int l4]) (st := []) cv_BentWordsModel_208 rfl rfl hr rfl rfl (Nat.le_of_ble_eq_true rfl) dX12_readMessage_71 (fun w3 hv => ?_)
    replace h := h w3 hv
    clear hr
    refine bw_aload_n (i := 0) dX12_readMessage_74 rfl rfl ?_
    refine bw_geti fg_BentWordsModel_150 rfl dX12_readMessage_75 ?_
    refine bw_iconst (v := (-1)) dX12_readMessage_78 (by decide) ?_
    refine bw_icmp_ne (tgt := 102) dX12_readMessage_79 (by decide) (fun c => ?_) (fun c => ?_)
    · replace h := h.1 (c)
      refine bw_iconst (v := 0) dX12_readMessage_102 (by decide) ?_
      refine bw_istore (i := 5) (L' := [some (.ref 50), some (.int l1), some (.long l2), none, some (.int l4), some (.int 0)]) dX12_readMessage_103 (Nat.le_of_ble_eq_true rfl) rfl ?_
      refine bw_goto (tgt := 63) dX12_readMessage_105 (by decide) ?_
      exact h
    · replace h := h.2 (c)
      refine bw_aload_n (i := 0) dX12_readMessage_82 rfl rfl ?_
      refine bw_geti fg_BentWordsModel_126 rfl dX12_readMessage_83 ?_
      refine bw_if_eq (tgt := 102) dX12_readMessage_86 (by decide) (fun c => ?_) (fun c => ?_)
      · replace h := h.1 (c)
        refine bw_iconst (v := 0) dX12_readMessage_102 (by decide) ?_
        refine bw_istore (i := 5) (L' := [some (.ref 50), some (.int l1), some (.long l2), none, some (.int l4), some (.int 0)]) dX12_readMessage_103 (Nat.le_of_ble_eq_true rfl) rfl ?_
        refine bw_goto (tgt := 63) dX12_readMessage_105 (by decide) ?_
        exact h
      · replace h := h.2 (c)
        refine bw_aload_n (i := 0) dX12_readMessage_89 rfl rfl ?_
        refine bw_bipush (v := 59) dX12_readMessage_90 (by decide) ?_
        refine bw_cVb (As := [.int 59]) (st := []) (Q' := (fun v w1 => (decide (((gw_i w3 50 10) = (-1)) ∧ (((gw_i w3 50 4) = 3) ∧ ((gw_i w3 50 8) = 59)))) = v ∧ w3 = w1)) cv_BentWordsModel_157 rfl rfl (fs_X12_isSign (d := d + 5) (a0 := 59)  ⟨rfl, rfl⟩) rfl rfl (Nat.le_of_ble_eq_true rfl) dX12_readMessage_92 (fun v w1 hv => ?_)
        obtain ⟨rfl, rfl⟩ := hv
        refine bw_ifb_ne (tgt := 102) dX12_readMessage_95 (by decide) (fun c => ?_) (fun c => ?_)
        · replace h := h.1 (of_decide_eq_true c)
          refine bw_iconst (v := 0) dX12_readMessage_102 (by decide) ?_
          refine bw_istore (i := 5) (L' := [some (.ref 50), some (.int l1), some (.long l2), none, some (.int l4), some (.int 0)]) dX12_readMessage_103 (Nat.le_of_ble_eq_true rfl) rfl ?_
          refine bw_goto (tgt := 63) dX12_readMessage_105 (by decide) ?_
          exact h
        · replace h := h.2 (of_decide_eq_false c)
          refine bw_iconst (v := 1) dX12_readMessage_98 (by decide) ?_
          refine bw_goto (tgt := 103) dX12_readMessage_99 (by decide) ?_
          refine bw_istore (i := 5) (L' := [some (.ref 50), some (.int l1), some (.long l2), none, some (.int l4), some (.int 1)]) dX12_readMessage_103 (Nat.le_of_ble_eq_true rfl) rfl ?_
          refine bw_goto (tgt := 63) dX12_readMessage_105 (by decide) ?_
          exact h
theorem wfX12_readMessage {E : bw_E} {d : Nat} {w : bw_W} {Q : bw_W → Prop} {a0 : Int32}  (h : ((¬ (gw_i w 50 21) = 4 → (∃ Q1 : Bool → bw_W → Prop, bw_rb E (d + 5) mX12_isTitleHere [.ref 50] w Q1 ∧ ∀ v2 w3, Q1 v2 w3 →
((v2 = false → (∃ Q4 : Int64 → bw_W → Prop, bw_rl E (d + 5) mX12_anyWord [.ref 50] w3 Q4 ∧ ∀ v5 w6, Q4 v5 w6 →
(((gw_i w6 50 10) = (-1) → (vp_in (gw_i w6 50 21) 4) ∧
(vp_in (gw_i w6 50 21) 4) ∧
bw_G E (d + 6) mX12_readMessage 63 [some (.ref 50), some (.int a0), some (.long v5), none, some (.int (gw_i w6 50 21)), some (.int 1)] [] (sw_i (sw_l w6 56 ((gw_i w6 50 21).toNatClampNeg) v5) 57 ((gw_i w6 50 21).toNatClampNeg) 0) (bw_qv Q)) ∧ (¬ ((gw_i w6 50 10) = (-1)) → Q w6)))) ∧ (v2 = true → (∃ Q9 : Int64 → bw_W → Prop, bw_rl E (d + 5) mX12_anyWord [.ref 50] (sw_i w3 50 10 (if ¬ (gw_i w3 50 10) = (-1) then (gw_i w3 50 10) else (gw_i w3 50 5))) Q9 ∧ ∀ v10 w11, Q9 v10 w11 →
(((gw_i w11 50 10) = (-1) → (vp_in (gw_i w11 50 21) 4) ∧
(vp_in (gw_i w11 50 21) 4) ∧
bw_G E (d + 6) mX12_readMessage 63 [some (.ref 50), some (.int a0), some (.long v10), none, some (.int (gw_i w11 50 21)), some (.int 1)] [] (sw_i (sw_l w11 56 ((gw_i w11 50 21).toNatClampNeg) v10) 57 ((gw_i w11 50 21).toNatClampNeg) 0) (bw_qv Q)) ∧ (¬ ((gw_i w11 50 10) = (-1)) → Q w11))))))) ∧ ((gw_i w 50 21) = 4 → (∃ Q14 : Bool → bw_W → Prop, bw_rb E (d + 5) mX12_isTitleHere [.ref 50] (sw_i w 50 10 (if ¬ (gw_i w 50 10) = (-1) then (gw_i w 50 10) else a0)) Q14 ∧ ∀ v15 w16, Q14 v15 w16 →
((v15 = false → (∃ Q17 : Int64 → bw_W → Prop, bw_rl E (d + 5) mX12_anyWord [.ref 50] w16 Q17 ∧ ∀ v18 w19, Q17 v18 w19 →
(((gw_i w19 50 10) = (-1) → (vp_in (gw_i w19 50 21) 4) ∧
(vp_in (gw_i w19 50 21) 4) ∧
bw_G E (d + 6) mX12_readMessage 63 [some (.ref 50), some (.int a0), some (.long v18), none, some (.int (gw_i w19 50 21)), some (.int 1)] [] (sw_i (sw_l w19 56 ((gw_i w19 50 21).toNatClampNeg) v18) 57 ((gw_i w19 50 21).toNatClampNeg) 0) (bw_qv Q)) ∧ (¬ ((gw_i w19 50 10) = (-1)) → Q w19)))) ∧ (v15 = true → (∃ Q22 : Int64 → bw_W → Prop, bw_rl E (d + 5) mX12_anyWord [.ref 50] (sw_i w16 50 10 (if ¬ (gw_i w16 50 10) = (-1) then (gw_i w16 50 10) else (gw_i w16 50 5))) Q22 ∧ ∀ v23 w24, Q22 v23 w24 →
(((gw_i w24 50 10) = (-1) → (vp_in (gw_i w24 50 21) 4) ∧
(vp_in (gw_i w24 50 21) 4) ∧
bw_G E (d + 6) mX12_readMessage 63 [some (.ref 50), some (.int a0), some (.long v23), none, some (.int (gw_i w24 50 21)), some (.int 1)] [] (sw_i (sw_l w24 56 ((gw_i w24 50 21).toNatClampNeg) v23) 57 ((gw_i w24 50 21).toNatClampNeg) 0) (bw_qv Q)) ∧ (¬ ((gw_i w24 50 10) = (-1)) → Q w24))))))))) : bw_rv E (d + 6) mX12_readMessage [.ref 50, .int a0] w Q := by
  refine bw_enter rfl (Nat.le_of_ble_eq_true rfl) ?_
  refine bw_aload_n (i := 0) dX12_readMessage_0 rfl rfl ?_
  refine bw_geti fg_BentWordsModel_181 rfl dX12_readMessage_1 ?_
  refine bw_iconst (v := 4) dX12_readMessage_4 (by decide) ?_
  refine bw_icmp_ne (tgt := 13) dX12_readMessage_5 (by decide) (fun c => ?_) (fun c => ?_)
  · replace h := h.1 (c)
    refine bw_aload_n (i := 0) dX12_readMessage_13 rfl rfl ?_
    obtain ⟨Q1, hr, h⟩ := h
    refine bw_cVb (As := []) (st := []) cv_BentWordsModel_205 rfl rfl hr rfl rfl (Nat.le_of_ble_eq_true rfl) dX12_readMessage_14 (fun v2 w3 hv => ?_)
    replace h := h v2 w3 hv
    clear hr
    refine bw_ifb_eq (tgt := 24) dX12_readMessage_17 (by decide) (fun c => ?_) (fun c => ?_)
    · replace h := h.1 (c)
      refine bw_aload_n (i := 0) dX12_readMessage_24 rfl rfl ?_
      obtain ⟨Q4, hr, h⟩ := h
      refine bw_cVl (As := []) (st := []) cv_BentWordsModel_187 rfl rfl hr rfl rfl (Nat.le_of_ble_eq_true rfl) dX12_readMessage_25 (fun v5 w6 hv => ?_)
      replace h := h v5 w6 hv
      clear hr
      refine bw_lstore_n (i := 2) (L' := [some (.ref 50), some (.int a0), some (.long v5), none, none, none]) dX12_readMessage_28 rfl (Nat.le_of_ble_eq_true rfl) rfl ?_
      refine bw_aload_n (i := 0) dX12_readMessage_29 rfl rfl ?_
      refine bw_geti fg_BentWordsModel_181 rfl dX12_readMessage_30 ?_
      refine bw_istore (i := 4) (L' := [some (.ref 50), some (.int a0), some (.long v5), none, some (.int (gw_i w6 50 21)), none]) dX12_readMessage_33 (Nat.le_of_ble_eq_true rfl) rfl ?_
      refine bw_aload_n (i := 0) dX12_readMessage_35 rfl rfl ?_
      refine bw_geti fg_BentWordsModel_150 rfl dX12_readMessage_36 ?_
      refine bw_iconst (v := (-1)) dX12_readMessage_39 (by decide) ?_
      refine bw_icmp_eq (tgt := 44) dX12_readMessage_40 (by decide) (fun c => ?_) (fun c => ?_)
      · replace h := h.1 (c)
        refine bw_aload_n (i := 0) dX12_readMessage_44 rfl rfl ?_
        refine bw_getr (r := 56) fg_BentWordsModel_26 rfl rfl dX12_readMessage_45 ?_
        refine bw_iload dX12_readMessage_48 rfl ?_
        refine bw_lload_n (i := 2) dX12_readMessage_50 rfl rfl ?_
        obtain ⟨hi7, h⟩ := h
        refine bw_lastore rfl hi7 dX12_readMessage_51 ?_
        refine bw_aload_n (i := 0) dX12_readMessage_52 rfl rfl ?_
        refine bw_getr (r := 57) fg_BentWordsModel_29 rfl rfl dX12_readMessage_53 ?_
        refine bw_iload dX12_readMessage_56 rfl ?_
        refine bw_iconst (v := 0) dX12_readMessage_58 (by decide) ?_
        obtain ⟨hi8, h⟩ := h
        refine bw_iastore rfl hi8 dX12_readMessage_59 ?_
        refine bw_iconst (v := 1) dX12_readMessage_60 (by decide) ?_
        refine bw_istore (i := 5) (L' := [some (.ref 50), some (.int a0), some (.long v5), none, some (.int (gw_i w6 50 21)), some (.int 1)]) dX12_readMessage_61 (Nat.le_of_ble_eq_true rfl) rfl ?_
        exact h
      · replace h := h.2 (c)
        exact bw_return dX12_readMessage_43 rfl ⟨rfl, h⟩
    · replace h := h.2 (c)
      refine bw_aload_n (i := 0) dX12_readMessage_20 rfl rfl ?_
      refine bw_cVv (As := []) (st := []) (Q' := (fun w1 => (sw_i w3 50 10 (if ¬ (gw_i w3 50 10) = (-1) then (gw_i w3 50 10) else (gw_i w3 50 5))) = w1)) cv_BentWordsModel_167 rfl rfl (fs_X12_bad (d := d + 4)   rfl) rfl rfl (Nat.le_of_ble_eq_true rfl) dX12_readMessage_21 (fun w1 hv => ?_)
      subst hv
      refine bw_aload_n (i := 0) dX12_readMessage_24 rfl rfl ?_
      obtain ⟨Q9, hr, h⟩ := h
      refine bw_cVl (As := []) (st := []) cv_BentWordsModel_187 rfl rfl hr rfl rfl (Nat.le_of_ble_eq_true rfl) dX12_readMessage_25 (fun v10 w11 hv => ?_)
      replace h := h v10 w11 hv
      clear hr
      refine bw_lstore_n (i := 2) (L' := [some (.ref 50), some (.int a0), some (.long v10), none, none, none]) dX12_readMessage_28 rfl (Nat.le_of_ble_eq_true rfl) rfl ?_
      refine bw_aload_n (i := 0) dX12_readMessage_29 rfl rfl ?_
      refine bw_geti fg_BentWordsModel_181 rfl dX12_readMessage_30 ?_
      refine bw_istore (i := 4) (L' := [some (.ref 50), some (.int a0), some (.long v10), none, some (.int (gw_i w11 50 21)), none]) dX12_readMessage_33 (Nat.le_of_ble_eq_true rfl) rfl ?_
      refine bw_aload_n (i := 0) dX12_readMessage_35 rfl rfl ?_
      refine bw_geti fg_BentWordsModel_150 rfl dX12_readMessage_36 ?_
      refine bw_iconst (v := (-1)) dX12_readMessage_39 (by decide) ?_
      refine bw_icmp_eq (tgt := 44) dX12_readMessage_40 (by decide) (fun c => ?_) (fun c => ?_)
      · replace h := h.1 (c)
        refine bw_aload_n (i := 0) dX12_readMessage_44 rfl rfl ?_
        refine bw_getr (r := 56) fg_BentWordsModel_26 rfl rfl dX12_readMessage_45 ?_
        refine bw_iload dX12_readMessage_48 rfl ?_
        refine bw_lload_n (i := 2) dX12_readMessage_50 rfl rfl ?_
        obtain ⟨hi12, h⟩ := h
        refine bw_lastore rfl hi12 dX12_readMessage_51 ?_
        refine bw_aload_n (i := 0) dX12_readMessage_52 rfl rfl ?_
        refine bw_getr (r := 57) fg_BentWordsModel_29 rfl rfl dX12_readMessage_53 ?_
        refine bw_iload dX12_readMessage_56 rfl ?_
        refine bw_iconst (v := 0) dX12_readMessage_58 (by decide) ?_
        obtain ⟨hi13, h⟩ := h
        refine bw_iastore rfl hi13 dX12_readMessage_59 ?_
        refine bw_iconst (v := 1) dX12_readMessage_60 (by decide) ?_
        refine bw_istore (i := 5) (L' := [some (.ref 50), some (.int a0), some (.long v10), none, some (.int (gw_i w11 50 21)), some (.int 1)]) dX12_readMessage_61 (Nat.le_of_ble_eq_true rfl) rfl ?_
        exact h
      · replace h := h.2 (c)
        exact bw_return dX12_readMessage_43 rfl ⟨rfl, h⟩
  · replace h := h.2 (c)
    refine bw_aload_n (i := 0) dX12_readMessage_8 rfl rfl ?_
    refine bw_iload_n (i := 1) dX12_readMessage_9 rfl rfl ?_
    refine bw_cVv (As := [.int a0]) (st := []) (Q' := (fun w1 => (sw_i w 50 10 (if ¬ (gw_i w 50 10) = (-1) then (gw_i w 50 10) else a0)) = w1)) cv_BentWordsModel_153 rfl rfl (fs_X12_badAt (d := d + 5) (a0 := a0)  rfl) rfl rfl (Nat.le_of_ble_eq_true rfl) dX12_readMessage_10 (fun w1 hv => ?_)
    subst hv
    refine bw_aload_n (i := 0) dX12_readMessage_13 rfl rfl ?_
    obtain ⟨Q14, hr, h⟩ := h
    refine bw_cVb (As := []) (st := []) cv_BentWordsModel_205 rfl rfl hr rfl rfl (Nat.le_of_ble_eq_true rfl) dX12_readMessage_14 (fun v15 w16 hv => ?_)
    replace h := h v15 w16 hv
    clear hr
    refine bw_ifb_eq (tgt := 24) dX12_readMessage_17 (by decide) (fun c => ?_) (fun c => ?_)
    · replace h := h.1 (c)
      refine bw_aload_n (i := 0) dX12_readMessage_24 rfl rfl ?_
      obtain ⟨Q17, hr, h⟩ := h
      refine bw_cVl (As := []) (st := []) cv_BentWordsModel_187 rfl rfl hr rfl rfl (Nat.le_of_ble_eq_true rfl) dX12_readMessage_25 (fun v18 w19 hv => ?_)
      replace h := h v18 w19 hv
      clear hr
      refine bw_lstore_n (i := 2) (L' := [some (.ref 50), some (.int a0), some (.long v18), none, none, none]) dX12_readMessage_28 rfl (Nat.le_of_ble_eq_true rfl) rfl ?_
      refine bw_aload_n (i := 0) dX12_readMessage_29 rfl rfl ?_
      refine bw_geti fg_BentWordsModel_181 rfl dX12_readMessage_30 ?_
      refine bw_istore (i := 4) (L' := [some (.ref 50), some (.int a0), some (.long v18), none, some (.int (gw_i w19 50 21)), none]) dX12_readMessage_33 (Nat.le_of_ble_eq_true rfl) rfl ?_
      refine bw_aload_n (i := 0) dX12_readMessage_35 rfl rfl ?_
      refine bw_geti fg_BentWordsModel_150 rfl dX12_readMessage_36 ?_
      refine bw_iconst (v := (-1)) dX12_readMessage_39 (by decide) ?_
      refine bw_icmp_eq (tgt := 44) dX12_readMessage_40 (by decide) (fun c => ?_) (fun c => ?_)
      · replace h := h.1 (c)
        refine bw_aload_n (i := 0) dX12_readMessage_44 rfl rfl ?_
        refine bw_getr (r := 56) fg_BentWordsModel_26 rfl rfl dX12_readMessage_45 ?_
        refine bw_iload dX12_readMessage_48 rfl ?_
        refine bw_lload_n (i := 2) dX12_readMessage_50 rfl rfl ?_
        obtain ⟨hi20, h⟩ := h
        refine bw_lastore rfl hi20 dX12_readMessage_51 ?_
        refine bw_aload_n (i := 0) dX12_readMessage_52 rfl rfl ?_
        refine bw_getr (r := 57) fg_BentWordsModel_29 rfl rfl dX12_readMessage_53 ?_
        refine bw_iload dX12_readMessage_56 rfl ?_
        refine bw_iconst (v := 0) dX12_readMessage_58 (by decide) ?_
        obtain ⟨hi21, h⟩ := h
        refine bw_iastore rfl hi21 dX12_readMessage_59 ?_
        refine bw_iconst (v := 1) dX12_readMessage_60 (by decide) ?_
        refine bw_istore (i := 5) (L' := [some (.ref 50), some (.int a0), some (.long v18), none, some (.int (gw_i w19 50 21)), some (.int 1)]) dX12_readMessage_61 (Nat.le_of_ble_eq_true rfl) rfl ?_
        exact h
      · replace h := h.2 (c)
        exact bw_return dX12_readMessage_43 rfl ⟨rfl, h⟩
    · replace h := h.2 (c)
      refine bw_aload_n (i := 0) dX12_readMessage_20 rfl rfl ?_
      refine bw_cVv (As := []) (st := []) (Q' := (fun w1 => (sw_i w16 50 10 (if ¬ (gw_i w16 50 10) = (-1) then (gw_i w16 50 10) else (gw_i w16 50 5))) = w1)) cv_BentWordsModel_167 rfl rfl (fs_X12_bad (d := d + 4)   rfl) rfl rfl (Nat.le_of_ble_eq_true rfl) dX12_readMessage_21 (fun w1 hv => ?_)
      subst hv
      refine bw_aload_n (i := 0) dX12_readMessage_24 rfl rfl ?_
      obtain ⟨Q22, hr, h⟩ := h
      refine bw_cVl (As := []) (st := []) cv_BentWordsModel_187 rfl rfl hr rfl rfl (Nat.le_of_ble_eq_true rfl) dX12_readMessage_25 (fun v23 w24 hv => ?_)
      replace h := h v23 w24 hv
      clear hr
      refine bw_lstore_n (i := 2) (L' := [some (.ref 50), some (.int a0), some (.long v23), none, none, none]) dX12_readMessage_28 rfl (Nat.le_of_ble_eq_true rfl) rfl ?_
      refine bw_aload_n (i := 0) dX12_readMessage_29 rfl rfl ?_
      refine bw_geti fg_BentWordsModel_181 rfl dX12_readMessage_30 ?_
      refine bw_istore (i := 4) (L' := [some (.ref 50), some (.int a0), some (.long v23), none, some (.int (gw_i w24 50 21)), none]) dX12_readMessage_33 (Nat.le_of_ble_eq_true rfl) rfl ?_
      refine bw_aload_n (i := 0) dX12_readMessage_35 rfl rfl ?_
      refine bw_geti fg_BentWordsModel_150 rfl dX12_readMessage_36 ?_
      refine bw_iconst (v := (-1)) dX12_readMessage_39 (by decide) ?_
      refine bw_icmp_eq (tgt := 44) dX12_readMessage_40 (by decide) (fun c => ?_) (fun c => ?_)
      · replace h := h.1 (c)
        refine bw_aload_n (i := 0) dX12_readMessage_44 rfl rfl ?_
        refine bw_getr (r := 56) fg_BentWordsModel_26 rfl rfl dX12_readMessage_45 ?_
        refine bw_iload dX12_readMessage_48 rfl ?_
        refine bw_lload_n (i := 2) dX12_readMessage_50 rfl rfl ?_
        obtain ⟨hi25, h⟩ := h
        refine bw_lastore rfl hi25 dX12_readMessage_51 ?_
        refine bw_aload_n (i := 0) dX12_readMessage_52 rfl rfl ?_
        refine bw_getr (r := 57) fg_BentWordsModel_29 rfl rfl dX12_readMessage_53 ?_
        refine bw_iload dX12_readMessage_56 rfl ?_
        refine bw_iconst (v := 0) dX12_readMessage_58 (by decide) ?_
        obtain ⟨hi26, h⟩ := h
        refine bw_iastore rfl hi26 dX12_readMessage_59 ?_
        refine bw_iconst (v := 1) dX12_readMessage_60 (by decide) ?_
        refine bw_istore (i := 5) (L' := [some (.ref 50), some (.int a0), some (.long v23), none, some (.int (gw_i w24 50 21)), some (.int 1)]) dX12_readMessage_61 (Nat.le_of_ble_eq_true rfl) rfl ?_
        exact h
      · replace h := h.2 (c)
        exact bw_return dX12_readMessage_43 rfl ⟨rfl, h⟩
theorem wfX12_readScript_23 {E : bw_E} {d : Nat} {w : bw_W} {Q : Int32 → bw_W → Prop} {l1 : Int32} {l2 : Int32}  (h : ((l2 = 0 → (∃ Q1 : Int32 → bw_W → Prop, bw_ri E (d + 5) mX12_ends [.ref 50] w Q1 ∧ ∀ v2 w3, Q1 v2 w3 →
Q v2 w3)) ∧ (¬ (l2 = 0) → (vp_in l1 5) ∧
(∃ Q5 : bw_W → Prop, bw_rv E (d + 5) mX12_readStep [.ref 50, .int ((12 * l1) + (gw_i w 62 (l1.toNatClampNeg)))] w Q5 ∧ ∀ w7, Q5 w7 →
(vp_in l1 5) ∧
(vp_in l1 5) ∧
(vp_in l1 5) ∧
((12 ≤ ((gw_i w7 62 (l1.toNatClampNeg)) + 1) → bw_G E (d + 6) mX12_readScript 23 [some (.ref 50), some (.int l1), some (.int 0)] [] (sw_i w7 62 (l1.toNatClampNeg) ((gw_i w7 62 (l1.toNatClampNeg)) + 1)) (bw_qi Q)) ∧ (¬ (12 ≤ ((gw_i w7 62 (l1.toNatClampNeg)) + 1)) → (∃ Q11 : Bool → bw_W → Prop, bw_rb E (d + 5) mX12_takesSign [.ref 50, .int 59] (sw_i w7 62 (l1.toNatClampNeg) ((gw_i w7 62 (l1.toNatClampNeg)) + 1)) Q11 ∧ ∀ v12 w13, Q11 v12 w13 →
((v12 = false → bw_G E (d + 6) mX12_readScript 23 [some (.ref 50), some (.int l1), some (.int 0)] [] w13 (bw_qi Q)) ∧ (v12 = true → bw_G E (d + 6) mX12_readScript 23 [some (.ref 50), some (.int l1), some (.int 1)] [] w13 (bw_qi Q)))))))))) : bw_G E (d + 6) mX12_readScript 23 [some (.ref 50), some (.int l1), some (.int l2)] [] w (bw_qi Q) := by
  refine bw_iload_n (i := 2) dX12_readScript_23 rfl rfl ?_
  refine bw_if_eq (tgt := 81) dX12_readScript_24 (by decide) (fun c => ?_) (fun c => ?_)
  · replace h := h.1 (c)
    refine bw_aload_n (i := 0) dX12_readScript_81 rfl rfl ?_
    obtain ⟨Q1, hr, h⟩ := h
    refine bw_cVi (As := []) (st := []) cv_BentWordsModel_244 rfl rfl hr rfl rfl (Nat.le_of_ble_eq_true rfl) dX12_readScript_82 (fun v2 w3 hv => ?_)
    replace h := h v2 w3 hv
    clear hr
    exact bw_ireturn dX12_readScript_85 rfl rfl ⟨_, rfl, h⟩
  · replace h := h.2 (c)
    refine bw_aload_n (i := 0) dX12_readScript_27 rfl rfl ?_
    refine bw_bipush (v := 12) dX12_readScript_28 (by decide) ?_
    refine bw_iload_n (i := 1) dX12_readScript_30 rfl rfl ?_
    refine bw_imul dX12_readScript_31 ?_
    refine bw_aload_n (i := 0) dX12_readScript_32 rfl rfl ?_
    refine bw_getr (r := 62) fg_BentWordsModel_44 rfl rfl dX12_readScript_33 ?_
    refine bw_iload_n (i := 1) dX12_readScript_36 rfl rfl ?_
    obtain ⟨hi4, h⟩ := h
    refine bw_iaload rfl hi4 dX12_readScript_37 ?_
    refine bw_iadd dX12_readScript_38 ?_
    obtain ⟨Q5, hr, h⟩ := h
    refine bw_cVv (As := [.int ((12 * l1) + (gw_i w 62 (l1.toNatClampNeg)))]) (st := []) cv_BentWordsModel_260 rfl rfl hr rfl rfl (Nat.le_of_ble_eq_true rfl) dX12_readScript_39 (fun w7 hv => ?_)
    replace h := h w7 hv
    clear hr
    refine bw_aload_n (i := 0) dX12_readScript_42 rfl rfl ?_
    refine bw_getr (r := 62) fg_BentWordsModel_44 rfl rfl dX12_readScript_43 ?_
    refine bw_iload_n (i := 1) dX12_readScript_46 rfl rfl ?_
    refine bw_dup2 dX12_readScript_47 rfl rfl ?_
    obtain ⟨hi8, h⟩ := h
    refine bw_iaload rfl hi8 dX12_readScript_48 ?_
    refine bw_iconst (v := 1) dX12_readScript_49 (by decide) ?_
    refine bw_iadd dX12_readScript_50 ?_
    obtain ⟨hi9, h⟩ := h
    refine bw_iastore rfl hi9 dX12_readScript_51 ?_
    refine bw_aload_n (i := 0) dX12_readScript_52 rfl rfl ?_
    refine bw_getr (r := 62) fg_BentWordsModel_44 rfl rfl dX12_readScript_53 ?_
    refine bw_iload_n (i := 1) dX12_readScript_56 rfl rfl ?_
    obtain ⟨hi10, h⟩ := h
    refine bw_iaload rfl hi10 dX12_readScript_57 ?_
    rw [show gw_i (sw_i w7 62 (l1.toNatClampNeg) ((gw_i w7 62 (l1.toNatClampNeg)) + 1)) 62 (l1.toNatClampNeg) = ((gw_i w7 62 (l1.toNatClampNeg)) + 1) from by first | rfl | (simp [gs_ii, gs_ll, gs_il, gs_li]; done)]
    refine bw_bipush (v := 12) dX12_readScript_58 (by decide) ?_
    refine bw_icmp_ge (tgt := 76) dX12_readScript_60 (by decide) (fun c => ?_) (fun c => ?_)
    · replace h := h.1 (c)
      refine bw_iconst (v := 0) dX12_readScript_76 (by decide) ?_
      refine bw_istore_n (i := 2) (L' := [some (.ref 50), some (.int l1), some (.int 0)]) dX12_readScript_77 rfl (Nat.le_of_ble_eq_true rfl) rfl ?_
      refine bw_goto (tgt := 23) dX12_readScript_78 (by decide) ?_
      exact h
    · replace h := h.2 (c)
      refine bw_aload_n (i := 0) dX12_readScript_63 rfl rfl ?_
      refine bw_bipush (v := 59) dX12_readScript_64 (by decide) ?_
      obtain ⟨Q11, hr, h⟩ := h
      refine bw_cVb (As := [.int 59]) (st := []) cv_BentWordsModel_241 rfl rfl hr rfl rfl (Nat.le_of_ble_eq_true rfl) dX12_readScript_66 (fun v12 w13 hv => ?_)
      replace h := h v12 w13 hv
      clear hr
      refine bw_ifb_eq (tgt := 76) dX12_readScript_69 (by decide) (fun c => ?_) (fun c => ?_)
      · replace h := h.1 (c)
        refine bw_iconst (v := 0) dX12_readScript_76 (by decide) ?_
        refine bw_istore_n (i := 2) (L' := [some (.ref 50), some (.int l1), some (.int 0)]) dX12_readScript_77 rfl (Nat.le_of_ble_eq_true rfl) rfl ?_
        refine bw_goto (tgt := 23) dX12_readScript_78 (by decide) ?_
        exact h
      · replace h := h.2 (c)
        refine bw_iconst (v := 1) dX12_readScript_72 (by decide) ?_
        refine bw_goto (tgt := 77) dX12_readScript_73 (by decide) ?_
        refine bw_istore_n (i := 2) (L' := [some (.ref 50), some (.int l1), some (.int 1)]) dX12_readScript_77 rfl (Nat.le_of_ble_eq_true rfl) rfl ?_
        refine bw_goto (tgt := 23) dX12_readScript_78 (by decide) ?_
        exact h
theorem wfX12_readScript {E : bw_E} {d : Nat} {w : bw_W} {Q : Int32 → bw_W → Prop} {a0 : Int32}  (h : (vp_in a0 5) ∧
(∃ Q2 : bw_W → Prop, bw_rv E (d + 5) mX12_next [.ref 50] (sw_i (sw_i (sw_i w 50 3 0) 50 10 (-1)) 62 (a0.toNatClampNeg) 0) Q2 ∧ ∀ w4, Q2 w4 →
bw_G E (d + 6) mX12_readScript 23 [some (.ref 50), some (.int a0), some (.int 1)] [] w4 (bw_qi Q))) : bw_ri E (d + 6) mX12_readScript [.ref 50, .int a0] w Q := by
  refine bw_enter rfl (Nat.le_of_ble_eq_true rfl) ?_
  refine bw_aload_n (i := 0) dX12_readScript_0 rfl rfl ?_
  refine bw_iconst (v := 0) dX12_readScript_1 (by decide) ?_
  refine bw_puti fp_BentWordsModel_104 rfl rfl rfl dX12_readScript_2 ?_
  refine bw_aload_n (i := 0) dX12_readScript_5 rfl rfl ?_
  refine bw_iconst (v := (-1)) dX12_readScript_6 (by decide) ?_
  refine bw_puti fp_BentWordsModel_150 rfl rfl rfl dX12_readScript_7 ?_
  refine bw_aload_n (i := 0) dX12_readScript_10 rfl rfl ?_
  refine bw_getr (r := 62) fg_BentWordsModel_44 rfl rfl dX12_readScript_11 ?_
  refine bw_iload_n (i := 1) dX12_readScript_14 rfl rfl ?_
  refine bw_iconst (v := 0) dX12_readScript_15 (by decide) ?_
  obtain ⟨hi1, h⟩ := h
  refine bw_iastore rfl hi1 dX12_readScript_16 ?_
  refine bw_aload_n (i := 0) dX12_readScript_17 rfl rfl ?_
  obtain ⟨Q2, hr, h⟩ := h
  refine bw_cVv (As := []) (st := []) cv_BentWordsModel_160 rfl rfl hr rfl rfl (Nat.le_of_ble_eq_true rfl) dX12_readScript_18 (fun w4 hv => ?_)
  replace h := h w4 hv
  clear hr
  refine bw_iconst (v := 1) dX12_readScript_21 (by decide) ?_
  refine bw_istore_n (i := 2) (L' := [some (.ref 50), some (.int a0), some (.int 1)]) dX12_readScript_22 rfl (Nat.le_of_ble_eq_true rfl) rfl ?_
  exact h
theorem wfX12_tellable_4 {E : bw_E} {d : Nat} {w : bw_W} {Q : Int32 → bw_W → Prop} {l1 : Int32} {l2 : Int32}  (h : (((gw_i w 50 35) ≤ l2 → Q l1 w) ∧ (¬ ((gw_i w 50 35) ≤ l2) → (∃ Q1 : Bool → bw_W → Prop, bw_rb E (d + 5) mX12_tellsNow [.ref 50, .int l2] w Q1 ∧ ∀ v2 w3, Q1 v2 w3 →
((v2 = false → bw_G E (d + 6) mX12_tellable 4 [some (.ref 50), some (.int (l1 ||| 0)), some (.int (l2 + 1))] [] w3 (bw_qi Q)) ∧ (v2 = true → bw_G E (d + 6) mX12_tellable 4 [some (.ref 50), some (.int (l1 ||| ((1 : Int32) <<< (l2 &&& 31)))), some (.int (l2 + 1))] [] w3 (bw_qi Q))))))) : bw_G E (d + 6) mX12_tellable 4 [some (.ref 50), some (.int l1), some (.int l2)] [] w (bw_qi Q) := by
  refine bw_iload_n (i := 2) dX12_tellable_4 rfl rfl ?_
  refine bw_aload_n (i := 0) dX12_tellable_5 rfl rfl ?_
  refine bw_geti fg_BentWordsModel_275 rfl dX12_tellable_6 ?_
  refine bw_icmp_ge (tgt := 36) dX12_tellable_9 (by decide) (fun c => ?_) (fun c => ?_)
  · replace h := h.1 (c)
    refine bw_iload_n (i := 1) dX12_tellable_36 rfl rfl ?_
    exact bw_ireturn dX12_tellable_37 rfl rfl ⟨_, rfl, h⟩
  · replace h := h.2 (c)
    refine bw_iload_n (i := 1) dX12_tellable_12 rfl rfl ?_
    refine bw_aload_n (i := 0) dX12_tellable_13 rfl rfl ?_
    refine bw_iload_n (i := 2) dX12_tellable_14 rfl rfl ?_
    obtain ⟨Q1, hr, h⟩ := h
    refine bw_cVb (As := [.int l2]) (st := [.int l1]) cv_BentWordsModel_364 rfl rfl hr rfl rfl (Nat.le_of_ble_eq_true rfl) dX12_tellable_15 (fun v2 w3 hv => ?_)
    replace h := h v2 w3 hv
    clear hr
    refine bw_ifb_eq (tgt := 27) dX12_tellable_18 (by decide) (fun c => ?_) (fun c => ?_)
    · replace h := h.1 (c)
      refine bw_iconst (v := 0) dX12_tellable_27 (by decide) ?_
      refine bw_ior dX12_tellable_28 ?_
      refine bw_istore_n (i := 1) (L' := [some (.ref 50), some (.int (l1 ||| 0)), some (.int l2)]) dX12_tellable_29 rfl (Nat.le_of_ble_eq_true rfl) rfl ?_
      refine bw_iinc (i := 2) (x := l2) (v := (l2 + 1)) (L' := [some (.ref 50), some (.int (l1 ||| 0)), some (.int (l2 + 1))]) dX12_tellable_30 rfl rfl (Nat.le_of_ble_eq_true rfl) rfl ?_
      refine bw_goto (tgt := 4) dX12_tellable_33 (by decide) ?_
      exact h
    · replace h := h.2 (c)
      refine bw_iconst (v := 1) dX12_tellable_21 (by decide) ?_
      refine bw_iload_n (i := 2) dX12_tellable_22 rfl rfl ?_
      refine bw_ishl dX12_tellable_23 ?_
      refine bw_goto (tgt := 28) dX12_tellable_24 (by decide) ?_
      refine bw_ior dX12_tellable_28 ?_
      refine bw_istore_n (i := 1) (L' := [some (.ref 50), some (.int (l1 ||| ((1 : Int32) <<< (l2 &&& 31)))), some (.int l2)]) dX12_tellable_29 rfl (Nat.le_of_ble_eq_true rfl) rfl ?_
      refine bw_iinc (i := 2) (x := l2) (v := (l2 + 1)) (L' := [some (.ref 50), some (.int (l1 ||| ((1 : Int32) <<< (l2 &&& 31)))), some (.int (l2 + 1))]) dX12_tellable_30 rfl rfl (Nat.le_of_ble_eq_true rfl) rfl ?_
      refine bw_goto (tgt := 4) dX12_tellable_33 (by decide) ?_
      exact h
theorem wfX12_tellable {E : bw_E} {d : Nat} {w : bw_W} {Q : Int32 → bw_W → Prop}   (h : bw_G E (d + 6) mX12_tellable 4 [some (.ref 50), some (.int 0), some (.int 0)] [] w (bw_qi Q)) : bw_ri E (d + 6) mX12_tellable [.ref 50] w Q := by
  refine bw_enter rfl (Nat.le_of_ble_eq_true rfl) ?_
  refine bw_iconst (v := 0) dX12_tellable_0 (by decide) ?_
  refine bw_istore_n (i := 1) (L' := [some (.ref 50), some (.int 0), none]) dX12_tellable_1 rfl (Nat.le_of_ble_eq_true rfl) rfl ?_
  refine bw_iconst (v := 0) dX12_tellable_2 (by decide) ?_
  refine bw_istore_n (i := 2) (L' := [some (.ref 50), some (.int 0), some (.int 0)]) dX12_tellable_3 rfl (Nat.le_of_ble_eq_true rfl) rfl ?_
  exact h
theorem wfX12_message {E : bw_E} {d : Nat} {w : bw_W} {Q : Int32 → bw_W → Prop} {a0 : Int32} {a1 : Int32}  (h : ((¬ ((¬ ((gw_i w 50 34) ≤ 0)) ∧ ((¬ (a0 < 0)) ∧ (¬ (((gw_i w 50 35) - 1) < a0)))) → Q (-1) w) ∧ ((¬ ((gw_i w 50 34) ≤ 0)) ∧ ((¬ (a0 < 0)) ∧ (¬ (((gw_i w 50 35) - 1) < a0))) → (((¬ (a1 < 0)) ∧ (¬ (3 < a1)) → ((a1 = 0 → (vp_in a0 4) ∧
Q (gw_i w 68 (a0.toNatClampNeg)) w) ∧ (a1 = 1 → (∃ Q2 : Int32 → bw_W → Prop, bw_ri E (d + 5) mX12_askedBy [.ref 50, .int a0] w Q2 ∧ ∀ v3 w4, Q2 v3 w4 →
Q v3 w4)) ∧ (a1 = 2 → (∃ Q5 : Bool → bw_W → Prop, bw_rb E (d + 5) mX12_tellsNow [.ref 50, .int a0] w Q5 ∧ ∀ v6 w7, Q5 v6 w7 →
((v6 = false → Q 0 w7) ∧ (v6 = true → Q 1 w7)))) ∧ (a1.toInt < 0 ∨ 2 < a1.toInt → (∃ Q8 : Bool → bw_W → Prop, bw_rb E (d + 5) mX12_tellsNow [.ref 50, .int a0] w Q8 ∧ ∀ v9 w10, Q8 v9 w10 →
((v9 = false → Q (-1) w10) ∧ (v9 = true → Q (gw_i w10 50 37) w10)))))) ∧ (¬ ((¬ (a1 < 0)) ∧ (¬ (3 < a1))) → Q (-1) w))))) : bw_ri E (d + 6) mX12_message [.ref 50, .int a0, .int a1] w Q := by
  refine bw_enter rfl (Nat.le_of_ble_eq_true rfl) ?_
  refine bw_aload_n (i := 0) dX12_message_0 rfl rfl ?_
  refine bw_iload_n (i := 1) dX12_message_1 rfl rfl ?_
  refine bw_cVb (As := [.int a0]) (st := []) (Q' := (fun v w1 => (decide ((¬ ((gw_i w 50 34) ≤ 0)) ∧ ((¬ (a0 < 0)) ∧ (¬ (((gw_i w 50 35) - 1) < a0))))) = v ∧ w = w1)) cv_BentWordsModel_453 rfl rfl (fs_X12_isMessage (d := d + 4) (a0 := a0)  ⟨rfl, rfl⟩) rfl rfl (Nat.le_of_ble_eq_true rfl) dX12_message_2 (fun v w1 hv => ?_)
  obtain ⟨rfl, rfl⟩ := hv
  refine bw_ifb_eq (tgt := 17) dX12_message_5 (by decide) (fun c => ?_) (fun c => ?_)
  · replace h := h.1 (of_decide_eq_false c)
    refine bw_iconst (v := (-1)) dX12_message_17 (by decide) ?_
    exact bw_ireturn dX12_message_18 rfl rfl ⟨_, rfl, h⟩
  · replace h := h.2 (of_decide_eq_true c)
    refine bw_iload_n (i := 2) dX12_message_8 rfl rfl ?_
    refine bw_iconst (v := 0) dX12_message_9 (by decide) ?_
    refine bw_iconst (v := 3) dX12_message_10 (by decide) ?_
    refine bw_cSb (As := [.int a1, .int 0, .int 3]) (st := []) (Q' := (fun v w1 => (decide ((¬ (a1 < 0)) ∧ (¬ (3 < a1)))) = v ∧ w = w1)) cs_BentWordsModel_100 (fs_X12_in (d := d + 5) (a0 := a1) (a1 := 0) (a2 := 3)  ⟨rfl, rfl⟩) rfl rfl (Nat.le_of_ble_eq_true rfl) dX12_message_11 (fun v w1 hv => ?_)
    obtain ⟨rfl, rfl⟩ := hv
    refine bw_ifb_ne (tgt := 19) dX12_message_14 (by decide) (fun c => ?_) (fun c => ?_)
    · replace h := h.1 (of_decide_eq_true c)
      refine bw_iload_n (i := 2) dX12_message_19 rfl rfl ?_
      refine bw_tabsw dX12_message_20 [48, 55, 61] 75 (by decide) rfl rfl (fun j hj hx => ?_) (fun hx => ?_)
      · match j, hj, hx with
        | 0, _, hx =>
          replace h := h.1 (bw_ti hx (by decide))
          refine bw_aload_n (i := 0) dX12_message_48 rfl rfl ?_
          refine bw_getr (r := 68) fg_BentWordsModel_62 rfl rfl dX12_message_49 ?_
          refine bw_iload_n (i := 1) dX12_message_52 rfl rfl ?_
          obtain ⟨hi1, h⟩ := h
          refine bw_iaload rfl hi1 dX12_message_53 ?_
          exact bw_ireturn dX12_message_54 rfl rfl ⟨_, rfl, h⟩
        | 1, _, hx =>
          replace h := h.2.1 (bw_ti hx (by decide))
          refine bw_aload_n (i := 0) dX12_message_55 rfl rfl ?_
          refine bw_iload_n (i := 1) dX12_message_56 rfl rfl ?_
          obtain ⟨Q2, hr, h⟩ := h
          refine bw_cVi (As := [.int a0]) (st := []) cv_BentWordsModel_456 rfl rfl hr rfl rfl (Nat.le_of_ble_eq_true rfl) dX12_message_57 (fun v3 w4 hv => ?_)
          replace h := h v3 w4 hv
          clear hr
          exact bw_ireturn dX12_message_60 rfl rfl ⟨_, rfl, h⟩
        | 2, _, hx =>
          replace h := h.2.2.1 (bw_ti hx (by decide))
          refine bw_aload_n (i := 0) dX12_message_61 rfl rfl ?_
          refine bw_iload_n (i := 1) dX12_message_62 rfl rfl ?_
          obtain ⟨Q5, hr, h⟩ := h
          refine bw_cVb (As := [.int a0]) (st := []) cv_BentWordsModel_364 rfl rfl hr rfl rfl (Nat.le_of_ble_eq_true rfl) dX12_message_63 (fun v6 w7 hv => ?_)
          replace h := h v6 w7 hv
          clear hr
          refine bw_ifb_eq (tgt := 73) dX12_message_66 (by decide) (fun c => ?_) (fun c => ?_)
          · replace h := h.1 (c)
            refine bw_iconst (v := 0) dX12_message_73 (by decide) ?_
            exact bw_ireturn dX12_message_74 rfl rfl ⟨_, rfl, h⟩
          · replace h := h.2 (c)
            refine bw_iconst (v := 1) dX12_message_69 (by decide) ?_
            refine bw_goto (tgt := 74) dX12_message_70 (by decide) ?_
            exact bw_ireturn dX12_message_74 rfl rfl ⟨_, rfl, h⟩
        | j + 3, hj, _ => exact absurd hj (by simp)
      · replace h := h.2.2.2 hx
        refine bw_aload_n (i := 0) dX12_message_75 rfl rfl ?_
        refine bw_iload_n (i := 1) dX12_message_76 rfl rfl ?_
        obtain ⟨Q8, hr, h⟩ := h
        refine bw_cVb (As := [.int a0]) (st := []) cv_BentWordsModel_364 rfl rfl hr rfl rfl (Nat.le_of_ble_eq_true rfl) dX12_message_77 (fun v9 w10 hv => ?_)
        replace h := h v9 w10 hv
        clear hr
        refine bw_ifb_eq (tgt := 90) dX12_message_80 (by decide) (fun c => ?_) (fun c => ?_)
        · replace h := h.1 (c)
          refine bw_iconst (v := (-1)) dX12_message_90 (by decide) ?_
          exact bw_ireturn dX12_message_91 rfl rfl ⟨_, rfl, h⟩
        · replace h := h.2 (c)
          refine bw_aload_n (i := 0) dX12_message_83 rfl rfl ?_
          refine bw_geti fg_BentWordsModel_308 rfl dX12_message_84 ?_
          refine bw_goto (tgt := 91) dX12_message_87 (by decide) ?_
          exact bw_ireturn dX12_message_91 rfl rfl ⟨_, rfl, h⟩
    · replace h := h.2 (of_decide_eq_false c)
      refine bw_iconst (v := (-1)) dX12_message_17 (by decide) ?_
      exact bw_ireturn dX12_message_18 rfl rfl ⟨_, rfl, h⟩
theorem wfX12_told_ {E : bw_E} {d : Nat} {w : bw_W} {Q : Int32 → bw_W → Prop} {a0 : Int32} {a1 : Int32}  (h : ((¬ ((¬ ((gw_i w 50 34) ≤ 0)) ∧ ((¬ (a0 < 0)) ∧ (¬ (((gw_i w 50 35) - 1) < a0)))) → Q (-1) w) ∧ ((¬ ((gw_i w 50 34) ≤ 0)) ∧ ((¬ (a0 < 0)) ∧ (¬ (((gw_i w 50 35) - 1) < a0))) → (∃ Q1 : Bool → bw_W → Prop, bw_rb E (d + 5) mX12_tellsNow [.ref 50, .int a0] w Q1 ∧ ∀ v2 w3, Q1 v2 w3 →
((v2 = false → Q (-1) w3) ∧ (v2 = true → ((¬ ((¬ (a1 < 0)) ∧ (¬ (((gw_i w3 50 37) - 1) < a1))) → Q (-1) w3) ∧ ((¬ (a1 < 0)) ∧ (¬ (((gw_i w3 50 37) - 1) < a1)) → (vp_in a1 200) ∧
Q (gw_i w3 71 (a1.toNatClampNeg)) w3)))))))) : bw_ri E (d + 6) mX12_told_ [.ref 50, .int a0, .int a1] w Q := by
  refine bw_enter rfl (Nat.le_of_ble_eq_true rfl) ?_
  refine bw_aload_n (i := 0) dX12_told__0 rfl rfl ?_
  refine bw_iload_n (i := 1) dX12_told__1 rfl rfl ?_
  refine bw_cVb (As := [.int a0]) (st := []) (Q' := (fun v w1 => (decide ((¬ ((gw_i w 50 34) ≤ 0)) ∧ ((¬ (a0 < 0)) ∧ (¬ (((gw_i w 50 35) - 1) < a0))))) = v ∧ w = w1)) cv_BentWordsModel_453 rfl rfl (fs_X12_isMessage (d := d + 4) (a0 := a0)  ⟨rfl, rfl⟩) rfl rfl (Nat.le_of_ble_eq_true rfl) dX12_told__2 (fun v w1 hv => ?_)
  obtain ⟨rfl, rfl⟩ := hv
  refine bw_ifb_eq (tgt := 39) dX12_told__5 (by decide) (fun c => ?_) (fun c => ?_)
  · replace h := h.1 (of_decide_eq_false c)
    refine bw_iconst (v := (-1)) dX12_told__39 (by decide) ?_
    exact bw_ireturn dX12_told__40 rfl rfl ⟨_, rfl, h⟩
  · replace h := h.2 (of_decide_eq_true c)
    refine bw_aload_n (i := 0) dX12_told__8 rfl rfl ?_
    refine bw_iload_n (i := 1) dX12_told__9 rfl rfl ?_
    obtain ⟨Q1, hr, h⟩ := h
    refine bw_cVb (As := [.int a0]) (st := []) cv_BentWordsModel_364 rfl rfl hr rfl rfl (Nat.le_of_ble_eq_true rfl) dX12_told__10 (fun v2 w3 hv => ?_)
    replace h := h v2 w3 hv
    clear hr
    refine bw_ifb_eq (tgt := 39) dX12_told__13 (by decide) (fun c => ?_) (fun c => ?_)
    · replace h := h.1 (c)
      refine bw_iconst (v := (-1)) dX12_told__39 (by decide) ?_
      exact bw_ireturn dX12_told__40 rfl rfl ⟨_, rfl, h⟩
    · replace h := h.2 (c)
      refine bw_iload_n (i := 2) dX12_told__16 rfl rfl ?_
      refine bw_iconst (v := 0) dX12_told__17 (by decide) ?_
      refine bw_aload_n (i := 0) dX12_told__18 rfl rfl ?_
      refine bw_geti fg_BentWordsModel_308 rfl dX12_told__19 ?_
      refine bw_iconst (v := 1) dX12_told__22 (by decide) ?_
      refine bw_isub dX12_told__23 ?_
      refine bw_cSb (As := [.int a1, .int 0, .int ((gw_i w3 50 37) - 1)]) (st := []) (Q' := (fun v w1 => (decide ((¬ (a1 < 0)) ∧ (¬ (((gw_i w3 50 37) - 1) < a1)))) = v ∧ w3 = w1)) cs_BentWordsModel_100 (fs_X12_in (d := d + 5) (a0 := a1) (a1 := 0) (a2 := ((gw_i w3 50 37) - 1))  ⟨rfl, rfl⟩) rfl rfl (Nat.le_of_ble_eq_true rfl) dX12_told__24 (fun v w1 hv => ?_)
      obtain ⟨rfl, rfl⟩ := hv
      refine bw_ifb_eq (tgt := 39) dX12_told__27 (by decide) (fun c => ?_) (fun c => ?_)
      · replace h := h.1 (of_decide_eq_false c)
        refine bw_iconst (v := (-1)) dX12_told__39 (by decide) ?_
        exact bw_ireturn dX12_told__40 rfl rfl ⟨_, rfl, h⟩
      · replace h := h.2 (of_decide_eq_true c)
        refine bw_aload_n (i := 0) dX12_told__30 rfl rfl ?_
        refine bw_getr (r := 71) fg_BentWordsModel_71 rfl rfl dX12_told__31 ?_
        refine bw_iload_n (i := 2) dX12_told__34 rfl rfl ?_
        obtain ⟨hi4, h⟩ := h
        refine bw_iaload rfl hi4 dX12_told__35 ?_
        refine bw_goto (tgt := 40) dX12_told__36 (by decide) ?_
        exact bw_ireturn dX12_told__40 rfl rfl ⟨_, rfl, h⟩
theorem wfX12_why {E : bw_E} {d : Nat} {w : bw_W} {Q : Int32 → bw_W → Prop} {a0 : Int32} {a1 : Int32}  (h : ((¬ ((¬ ((gw_i w 50 34) ≤ 0)) ∧ ((¬ (a0 < 0)) ∧ (¬ (((gw_i w 50 35) - 1) < a0)))) → Q (-1) w) ∧ ((¬ ((gw_i w 50 34) ≤ 0)) ∧ ((¬ (a0 < 0)) ∧ (¬ (((gw_i w 50 35) - 1) < a0))) → ((¬ ((¬ (a1 < 0)) ∧ (¬ (2 < a1))) → Q (-1) w) ∧ ((¬ (a1 < 0)) ∧ (¬ (2 < a1)) → (∃ Q1 : Bool → bw_W → Prop, bw_rb E (d + 5) mX12_tellsNow [.ref 50, .int a0] w Q1 ∧ ∀ v2 w3, Q1 v2 w3 →
((v2 = false → ((¬ a1 = 0 → ((¬ a1 = 1 → Q (gw_i w3 50 40) w3) ∧ (a1 = 1 → Q (gw_i w3 50 39) w3))) ∧ (a1 = 0 → Q (gw_i w3 50 38) w3))) ∧ (v2 = true → Q (-1) w3)))))))) : bw_ri E (d + 6) mX12_why [.ref 50, .int a0, .int a1] w Q := by
  refine bw_enter rfl (Nat.le_of_ble_eq_true rfl) ?_
  refine bw_aload_n (i := 0) dX12_why_0 rfl rfl ?_
  refine bw_iload_n (i := 1) dX12_why_1 rfl rfl ?_
  refine bw_cVb (As := [.int a0]) (st := []) (Q' := (fun v w1 => (decide ((¬ ((gw_i w 50 34) ≤ 0)) ∧ ((¬ (a0 < 0)) ∧ (¬ (((gw_i w 50 35) - 1) < a0))))) = v ∧ w = w1)) cv_BentWordsModel_453 rfl rfl (fs_X12_isMessage (d := d + 4) (a0 := a0)  ⟨rfl, rfl⟩) rfl rfl (Nat.le_of_ble_eq_true rfl) dX12_why_2 (fun v w1 hv => ?_)
  obtain ⟨rfl, rfl⟩ := hv
  refine bw_ifb_eq (tgt := 25) dX12_why_5 (by decide) (fun c => ?_) (fun c => ?_)
  · replace h := h.1 (of_decide_eq_false c)
    refine bw_iconst (v := (-1)) dX12_why_25 (by decide) ?_
    exact bw_ireturn dX12_why_26 rfl rfl ⟨_, rfl, h⟩
  · replace h := h.2 (of_decide_eq_true c)
    refine bw_iload_n (i := 2) dX12_why_8 rfl rfl ?_
    refine bw_iconst (v := 0) dX12_why_9 (by decide) ?_
    refine bw_iconst (v := 2) dX12_why_10 (by decide) ?_
    refine bw_cSb (As := [.int a1, .int 0, .int 2]) (st := []) (Q' := (fun v w1 => (decide ((¬ (a1 < 0)) ∧ (¬ (2 < a1)))) = v ∧ w = w1)) cs_BentWordsModel_100 (fs_X12_in (d := d + 5) (a0 := a1) (a1 := 0) (a2 := 2)  ⟨rfl, rfl⟩) rfl rfl (Nat.le_of_ble_eq_true rfl) dX12_why_11 (fun v w1 hv => ?_)
    obtain ⟨rfl, rfl⟩ := hv
    refine bw_ifb_eq (tgt := 25) dX12_why_14 (by decide) (fun c => ?_) (fun c => ?_)
    · replace h := h.1 (of_decide_eq_false c)
      refine bw_iconst (v := (-1)) dX12_why_25 (by decide) ?_
      exact bw_ireturn dX12_why_26 rfl rfl ⟨_, rfl, h⟩
    · replace h := h.2 (of_decide_eq_true c)
      refine bw_aload_n (i := 0) dX12_why_17 rfl rfl ?_
      refine bw_iload_n (i := 1) dX12_why_18 rfl rfl ?_
      obtain ⟨Q1, hr, h⟩ := h
      refine bw_cVb (As := [.int a0]) (st := []) cv_BentWordsModel_364 rfl rfl hr rfl rfl (Nat.le_of_ble_eq_true rfl) dX12_why_19 (fun v2 w3 hv => ?_)
      replace h := h v2 w3 hv
      clear hr
      refine bw_ifb_eq (tgt := 27) dX12_why_22 (by decide) (fun c => ?_) (fun c => ?_)
      · replace h := h.1 (c)
        refine bw_iload_n (i := 2) dX12_why_27 rfl rfl ?_
        refine bw_if_ne (tgt := 38) dX12_why_28 (by decide) (fun c => ?_) (fun c => ?_)
        · replace h := h.1 (c)
          refine bw_iload_n (i := 2) dX12_why_38 rfl rfl ?_
          refine bw_iconst (v := 1) dX12_why_39 (by decide) ?_
          refine bw_icmp_ne (tgt := 50) dX12_why_40 (by decide) (fun c => ?_) (fun c => ?_)
          · replace h := h.1 (c)
            refine bw_aload_n (i := 0) dX12_why_50 rfl rfl ?_
            refine bw_geti fg_BentWordsModel_327 rfl dX12_why_51 ?_
            exact bw_ireturn dX12_why_54 rfl rfl ⟨_, rfl, h⟩
          · replace h := h.2 (c)
            refine bw_aload_n (i := 0) dX12_why_43 rfl rfl ?_
            refine bw_geti fg_BentWordsModel_324 rfl dX12_why_44 ?_
            refine bw_goto (tgt := 54) dX12_why_47 (by decide) ?_
            exact bw_ireturn dX12_why_54 rfl rfl ⟨_, rfl, h⟩
        · replace h := h.2 (c)
          refine bw_aload_n (i := 0) dX12_why_31 rfl rfl ?_
          refine bw_geti fg_BentWordsModel_321 rfl dX12_why_32 ?_
          refine bw_goto (tgt := 54) dX12_why_35 (by decide) ?_
          exact bw_ireturn dX12_why_54 rfl rfl ⟨_, rfl, h⟩
      · replace h := h.2 (c)
        refine bw_iconst (v := (-1)) dX12_why_25 (by decide) ?_
        exact bw_ireturn dX12_why_26 rfl rfl ⟨_, rfl, h⟩
theorem wfX12_laysLongest_12 {E : bw_E} {d : Nat} {w : bw_W} {Q : bw_W → Prop} {l1 : Int32}  (h : (((gw_i w 50 35) ≤ l1 → Q w) ∧ (¬ ((gw_i w 50 35) ≤ l1) → (∃ Q1 : Bool → bw_W → Prop, bw_rb E (d + 5) mX12_tellsNow [.ref 50, .int l1] w Q1 ∧ ∀ v2 w3, Q1 v2 w3 →
((v2 = false → bw_G E (d + 6) mX12_laysLongest 12 [some (.ref 50), some (.int (l1 + 1))] [] w3 (bw_qv Q)) ∧ (v2 = true → (((gw_i w3 50 48) = (-1) → bw_G E (d + 6) mX12_laysLongest 12 [some (.ref 50), some (.int (l1 + 1))] [] (sw_i (sw_i w3 50 48 l1) 50 49 (gw_i w3 50 37)) (bw_qv Q)) ∧ (¬ ((gw_i w3 50 48) = (-1)) → (((gw_i w3 50 37) ≤ (gw_i w3 50 49) → bw_G E (d + 6) mX12_laysLongest 12 [some (.ref 50), some (.int (l1 + 1))] [] w3 (bw_qv Q)) ∧ (¬ ((gw_i w3 50 37) ≤ (gw_i w3 50 49)) → bw_G E (d + 6) mX12_laysLongest 12 [some (.ref 50), some (.int (l1 + 1))] [] (sw_i (sw_i w3 50 48 l1) 50 49 (gw_i w3 50 37)) (bw_qv Q))))))))))) : bw_G E (d + 6) mX12_laysLongest 12 [some (.ref 50), some (.int l1)] [] w (bw_qv Q) := by
  refine bw_iload_n (i := 1) dX12_laysLongest_12 rfl rfl ?_
  refine bw_aload_n (i := 0) dX12_laysLongest_13 rfl rfl ?_
  refine bw_geti fg_BentWordsModel_275 rfl dX12_laysLongest_14 ?_
  refine bw_icmp_ge (tgt := 66) dX12_laysLongest_17 (by decide) (fun c => ?_) (fun c => ?_)
  · replace h := h.1 (c)
    exact bw_return dX12_laysLongest_66 rfl ⟨rfl, h⟩
  · replace h := h.2 (c)
    refine bw_aload_n (i := 0) dX12_laysLongest_20 rfl rfl ?_
    refine bw_iload_n (i := 1) dX12_laysLongest_21 rfl rfl ?_
    obtain ⟨Q1, hr, h⟩ := h
    refine bw_cVb (As := [.int l1]) (st := []) cv_BentWordsModel_364 rfl rfl hr rfl rfl (Nat.le_of_ble_eq_true rfl) dX12_laysLongest_22 (fun v2 w3 hv => ?_)
    replace h := h v2 w3 hv
    clear hr
    refine bw_ifb_eq (tgt := 60) dX12_laysLongest_25 (by decide) (fun c => ?_) (fun c => ?_)
    · replace h := h.1 (c)
      refine bw_iinc (i := 1) (x := l1) (v := (l1 + 1)) (L' := [some (.ref 50), some (.int (l1 + 1))]) dX12_laysLongest_60 rfl rfl (Nat.le_of_ble_eq_true rfl) rfl ?_
      refine bw_goto (tgt := 12) dX12_laysLongest_63 (by decide) ?_
      exact h
    · replace h := h.2 (c)
      refine bw_aload_n (i := 0) dX12_laysLongest_28 rfl rfl ?_
      refine bw_geti fg_BentWordsModel_500 rfl dX12_laysLongest_29 ?_
      refine bw_iconst (v := (-1)) dX12_laysLongest_32 (by decide) ?_
      refine bw_icmp_eq (tgt := 47) dX12_laysLongest_33 (by decide) (fun c => ?_) (fun c => ?_)
      · replace h := h.1 (c)
        refine bw_aload_n (i := 0) dX12_laysLongest_47 rfl rfl ?_
        refine bw_iload_n (i := 1) dX12_laysLongest_48 rfl rfl ?_
        refine bw_puti fp_BentWordsModel_500 rfl rfl rfl dX12_laysLongest_49 ?_
        refine bw_aload_n (i := 0) dX12_laysLongest_52 rfl rfl ?_
        refine bw_aload_n (i := 0) dX12_laysLongest_53 rfl rfl ?_
        refine bw_geti fg_BentWordsModel_308 rfl dX12_laysLongest_54 ?_
        rw [show gw_i (sw_i w3 50 48 l1) 50 37 = (gw_i w3 50 37) from rfl]
        refine bw_puti fp_BentWordsModel_503 rfl rfl rfl dX12_laysLongest_57 ?_
        refine bw_iinc (i := 1) (x := l1) (v := (l1 + 1)) (L' := [some (.ref 50), some (.int (l1 + 1))]) dX12_laysLongest_60 rfl rfl (Nat.le_of_ble_eq_true rfl) rfl ?_
        refine bw_goto (tgt := 12) dX12_laysLongest_63 (by decide) ?_
        exact h
      · replace h := h.2 (c)
        refine bw_aload_n (i := 0) dX12_laysLongest_36 rfl rfl ?_
        refine bw_geti fg_BentWordsModel_308 rfl dX12_laysLongest_37 ?_
        refine bw_aload_n (i := 0) dX12_laysLongest_40 rfl rfl ?_
        refine bw_geti fg_BentWordsModel_503 rfl dX12_laysLongest_41 ?_
        refine bw_icmp_le (tgt := 60) dX12_laysLongest_44 (by decide) (fun c => ?_) (fun c => ?_)
        · replace h := h.1 (c)
          refine bw_iinc (i := 1) (x := l1) (v := (l1 + 1)) (L' := [some (.ref 50), some (.int (l1 + 1))]) dX12_laysLongest_60 rfl rfl (Nat.le_of_ble_eq_true rfl) rfl ?_
          refine bw_goto (tgt := 12) dX12_laysLongest_63 (by decide) ?_
          exact h
        · replace h := h.2 (c)
          refine bw_aload_n (i := 0) dX12_laysLongest_47 rfl rfl ?_
          refine bw_iload_n (i := 1) dX12_laysLongest_48 rfl rfl ?_
          refine bw_puti fp_BentWordsModel_500 rfl rfl rfl dX12_laysLongest_49 ?_
          refine bw_aload_n (i := 0) dX12_laysLongest_52 rfl rfl ?_
          refine bw_aload_n (i := 0) dX12_laysLongest_53 rfl rfl ?_
          refine bw_geti fg_BentWordsModel_308 rfl dX12_laysLongest_54 ?_
          rw [show gw_i (sw_i w3 50 48 l1) 50 37 = (gw_i w3 50 37) from rfl]
          refine bw_puti fp_BentWordsModel_503 rfl rfl rfl dX12_laysLongest_57 ?_
          refine bw_iinc (i := 1) (x := l1) (v := (l1 + 1)) (L' := [some (.ref 50), some (.int (l1 + 1))]) dX12_laysLongest_60 rfl rfl (Nat.le_of_ble_eq_true rfl) rfl ?_
          refine bw_goto (tgt := 12) dX12_laysLongest_63 (by decide) ?_
          exact h
theorem wfX12_laysLongest {E : bw_E} {d : Nat} {w : bw_W} {Q : bw_W → Prop}   (h : bw_G E (d + 6) mX12_laysLongest 12 [some (.ref 50), some (.int 0)] [] (sw_i (sw_i w 50 48 (-1)) 50 49 0) (bw_qv Q)) : bw_rv E (d + 6) mX12_laysLongest [.ref 50] w Q := by
  refine bw_enter rfl (Nat.le_of_ble_eq_true rfl) ?_
  refine bw_aload_n (i := 0) dX12_laysLongest_0 rfl rfl ?_
  refine bw_iconst (v := (-1)) dX12_laysLongest_1 (by decide) ?_
  refine bw_puti fp_BentWordsModel_500 rfl rfl rfl dX12_laysLongest_2 ?_
  refine bw_aload_n (i := 0) dX12_laysLongest_5 rfl rfl ?_
  refine bw_iconst (v := 0) dX12_laysLongest_6 (by decide) ?_
  refine bw_puti fp_BentWordsModel_503 rfl rfl rfl dX12_laysLongest_7 ?_
  refine bw_iconst (v := 0) dX12_laysLongest_10 (by decide) ?_
  refine bw_istore_n (i := 1) (L' := [some (.ref 50), some (.int 0)]) dX12_laysLongest_11 rfl (Nat.le_of_ble_eq_true rfl) rfl ?_
  exact h
theorem wfX12_messagesWhy_4 {E : bw_E} {d : Nat} {w : bw_W} {Q : Int32 → bw_W → Prop} {l1 : Int32} {l2 : Int32} {l3 : Int32}  (h : (((gw_i w 50 35) ≤ l3 → Q l2 w) ∧ (¬ ((gw_i w 50 35) ≤ l3) → (∃ Q1 : Bool → bw_W → Prop, bw_rb E (d + 5) mX12_tellsNow [.ref 50, .int l3] w Q1 ∧ ∀ v2 w3, Q1 v2 w3 →
((v2 = true → bw_G E (d + 6) mX12_messagesWhy 4 [some (.ref 50), some (.int l1), some (.int (l2 + 0)), some (.int (l3 + 1))] [] w3 (bw_qi Q)) ∧ (v2 = false → ((¬ (gw_i w3 50 40) = l1 → bw_G E (d + 6) mX12_messagesWhy 4 [some (.ref 50), some (.int l1), some (.int (l2 + 0)), some (.int (l3 + 1))] [] w3 (bw_qi Q)) ∧ ((gw_i w3 50 40) = l1 → bw_G E (d + 6) mX12_messagesWhy 4 [some (.ref 50), some (.int l1), some (.int (l2 + 1)), some (.int (l3 + 1))] [] w3 (bw_qi Q))))))))) : bw_G E (d + 6) mX12_messagesWhy 4 [some (.ref 50), some (.int l1), some (.int l2), some (.int l3)] [] w (bw_qi Q) := by
  refine bw_iload_n (i := 3) dX12_messagesWhy_4 rfl rfl ?_
  refine bw_aload_n (i := 0) dX12_messagesWhy_5 rfl rfl ?_
  refine bw_geti fg_BentWordsModel_275 rfl dX12_messagesWhy_6 ?_
  refine bw_icmp_ge (tgt := 42) dX12_messagesWhy_9 (by decide) (fun c => ?_) (fun c => ?_)
  · replace h := h.1 (c)
    refine bw_iload_n (i := 2) dX12_messagesWhy_42 rfl rfl ?_
    exact bw_ireturn dX12_messagesWhy_43 rfl rfl ⟨_, rfl, h⟩
  · replace h := h.2 (c)
    refine bw_iload_n (i := 2) dX12_messagesWhy_12 rfl rfl ?_
    refine bw_aload_n (i := 0) dX12_messagesWhy_13 rfl rfl ?_
    refine bw_iload_n (i := 3) dX12_messagesWhy_14 rfl rfl ?_
    obtain ⟨Q1, hr, h⟩ := h
    refine bw_cVb (As := [.int l3]) (st := [.int l2]) cv_BentWordsModel_364 rfl rfl hr rfl rfl (Nat.le_of_ble_eq_true rfl) dX12_messagesWhy_15 (fun v2 w3 hv => ?_)
    replace h := h v2 w3 hv
    clear hr
    refine bw_ifb_ne (tgt := 33) dX12_messagesWhy_18 (by decide) (fun c => ?_) (fun c => ?_)
    · replace h := h.1 (c)
      refine bw_iconst (v := 0) dX12_messagesWhy_33 (by decide) ?_
      refine bw_iadd dX12_messagesWhy_34 ?_
      refine bw_istore_n (i := 2) (L' := [some (.ref 50), some (.int l1), some (.int (l2 + 0)), some (.int l3)]) dX12_messagesWhy_35 rfl (Nat.le_of_ble_eq_true rfl) rfl ?_
      refine bw_iinc (i := 3) (x := l3) (v := (l3 + 1)) (L' := [some (.ref 50), some (.int l1), some (.int (l2 + 0)), some (.int (l3 + 1))]) dX12_messagesWhy_36 rfl rfl (Nat.le_of_ble_eq_true rfl) rfl ?_
      refine bw_goto (tgt := 4) dX12_messagesWhy_39 (by decide) ?_
      exact h
    · replace h := h.2 (c)
      refine bw_aload_n (i := 0) dX12_messagesWhy_21 rfl rfl ?_
      refine bw_geti fg_BentWordsModel_327 rfl dX12_messagesWhy_22 ?_
      refine bw_iload_n (i := 1) dX12_messagesWhy_25 rfl rfl ?_
      refine bw_icmp_ne (tgt := 33) dX12_messagesWhy_26 (by decide) (fun c => ?_) (fun c => ?_)
      · replace h := h.1 (c)
        refine bw_iconst (v := 0) dX12_messagesWhy_33 (by decide) ?_
        refine bw_iadd dX12_messagesWhy_34 ?_
        refine bw_istore_n (i := 2) (L' := [some (.ref 50), some (.int l1), some (.int (l2 + 0)), some (.int l3)]) dX12_messagesWhy_35 rfl (Nat.le_of_ble_eq_true rfl) rfl ?_
        refine bw_iinc (i := 3) (x := l3) (v := (l3 + 1)) (L' := [some (.ref 50), some (.int l1), some (.int (l2 + 0)), some (.int (l3 + 1))]) dX12_messagesWhy_36 rfl rfl (Nat.le_of_ble_eq_true rfl) rfl ?_
        refine bw_goto (tgt := 4) dX12_messagesWhy_39 (by decide) ?_
        exact h
      · replace h := h.2 (c)
        refine bw_iconst (v := 1) dX12_messagesWhy_29 (by decide) ?_
        refine bw_goto (tgt := 34) dX12_messagesWhy_30 (by decide) ?_
        refine bw_iadd dX12_messagesWhy_34 ?_
        refine bw_istore_n (i := 2) (L' := [some (.ref 50), some (.int l1), some (.int (l2 + 1)), some (.int l3)]) dX12_messagesWhy_35 rfl (Nat.le_of_ble_eq_true rfl) rfl ?_
        refine bw_iinc (i := 3) (x := l3) (v := (l3 + 1)) (L' := [some (.ref 50), some (.int l1), some (.int (l2 + 1)), some (.int (l3 + 1))]) dX12_messagesWhy_36 rfl rfl (Nat.le_of_ble_eq_true rfl) rfl ?_
        refine bw_goto (tgt := 4) dX12_messagesWhy_39 (by decide) ?_
        exact h
theorem wfX12_messagesWhy {E : bw_E} {d : Nat} {w : bw_W} {Q : Int32 → bw_W → Prop} {a0 : Int32}  (h : bw_G E (d + 6) mX12_messagesWhy 4 [some (.ref 50), some (.int a0), some (.int 0), some (.int 0)] [] w (bw_qi Q)) : bw_ri E (d + 6) mX12_messagesWhy [.ref 50, .int a0] w Q := by
  refine bw_enter rfl (Nat.le_of_ble_eq_true rfl) ?_
  refine bw_iconst (v := 0) dX12_messagesWhy_0 (by decide) ?_
  refine bw_istore_n (i := 2) (L' := [some (.ref 50), some (.int a0), some (.int 0), none]) dX12_messagesWhy_1 rfl (Nat.le_of_ble_eq_true rfl) rfl ?_
  refine bw_iconst (v := 0) dX12_messagesWhy_2 (by decide) ?_
  refine bw_istore_n (i := 3) (L' := [some (.ref 50), some (.int a0), some (.int 0), some (.int 0)]) dX12_messagesWhy_3 rfl (Nat.le_of_ble_eq_true rfl) rfl ?_
  exact h
theorem wfX4_readClause {E : bw_E} {d : Nat} {w : bw_W} {Q : Bool → bw_W → Prop}   (h : (∃ Q1 : Bool → bw_W → Prop, bw_rb E (d + 6) mX0_takeWord [.ref 3] w Q1 ∧ ∀ v2 w3, Q1 v2 w3 →
((v2 = true → (∃ Q4 : Bool → bw_W → Prop, bw_rb E (d + 6) mX0_wordIs [.ref 3, .ref 1000] w3 Q4 ∧ ∀ v5 w6, Q4 v5 w6 →
((v5 = false → (∃ Q7 : Bool → bw_W → Prop, bw_rb E (d + 6) mX0_wordIs [.ref 3, .ref 1001] w6 Q7 ∧ ∀ v8 w9, Q7 v8 w9 →
((v8 = false → (∃ Q10 : Bool → bw_W → Prop, bw_rb E (d + 6) mX0_wordIs [.ref 3, .ref 1002] w9 Q10 ∧ ∀ v11 w12, Q10 v11 w12 →
((v11 = false → (∃ Q13 : Bool → bw_W → Prop, bw_rb E (d + 6) mX0_wordIs [.ref 3, .ref 1003] w12 Q13 ∧ ∀ v14 w15, Q13 v14 w15 →
((v14 = false → (∃ Q16 : Bool → bw_W → Prop, bw_rb E (d + 6) mX0_wordIs [.ref 3, .ref 1004] w15 Q16 ∧ ∀ v17 w18, Q16 v17 w18 →
((v17 = false → Q (decide False) (sw_i w18 3 3 (gw_i w3 3 2))) ∧ (v17 = true → (∃ Q19 : Bool → bw_W → Prop, bw_rb E (d + 6) mX4_readMessage [.ref 4, .int (gw_i w3 3 2)] w18 Q19 ∧ ∀ v20 w21, Q19 v20 w21 →
Q v20 w21))))) ∧ (v14 = true → (∃ Q22 : Bool → bw_W → Prop, bw_rb E (d + 6) mX4_readBoundWord [.ref 4, .int (gw_i w3 3 2), .ref 10] w15 Q22 ∧ ∀ v23 w24, Q22 v23 w24 →
Q v23 w24))))) ∧ (v11 = true → (∃ Q25 : Bool → bw_W → Prop, bw_rb E (d + 6) mX4_readBoundWord [.ref 4, .int (gw_i w3 3 2), .ref 9] w12 Q25 ∧ ∀ v26 w27, Q25 v26 w27 →
Q v26 w27))))) ∧ (v8 = true → (∃ Q28 : Bool → bw_W → Prop, bw_rb E (d + 6) mX4_readForm [.ref 4, .int (gw_i w3 3 2)] w9 Q28 ∧ ∀ v29 w30, Q28 v29 w30 →
Q v29 w30))))) ∧ (v5 = true → (∃ Q31 : Bool → bw_W → Prop, bw_rb E (d + 6) mX4_readNoun [.ref 4, .int (gw_i w3 3 2)] w6 Q31 ∧ ∀ v32 w33, Q31 v32 w33 →
Q v32 w33))))) ∧ (v2 = false → Q false w3)))) : bw_rb E (d + 7) mX4_readClause [.ref 4] w Q := by
  refine bw_enter rfl (Nat.le_of_ble_eq_true rfl) ?_
  refine bw_aload_n (i := 0) dX4_readClause_0 rfl rfl ?_
  refine bw_getr (r := 3) fg_BentWords_LexiconReader_9 rfl rfl dX4_readClause_1 ?_
  obtain ⟨Q1, hr, h⟩ := h
  refine bw_cVb (As := []) (st := []) cv_BentWords_LexiconReader_51 rfl rfl hr rfl rfl (Nat.le_of_ble_eq_true rfl) dX4_readClause_4 (fun v2 w3 hv => ?_)
  replace h := h v2 w3 hv
  clear hr
  refine bw_ifb_ne (tgt := 12) dX4_readClause_7 (by decide) (fun c => ?_) (fun c => ?_)
  · replace h := h.1 (c)
    refine bw_aload_n (i := 0) dX4_readClause_12 rfl rfl ?_
    refine bw_getr (r := 3) fg_BentWords_LexiconReader_9 rfl rfl dX4_readClause_13 ?_
    refine bw_geti fg_BentWords_LexiconReader_54 rfl dX4_readClause_16 ?_
    refine bw_istore_n (i := 1) (L' := [some (.ref 4), some (.int (gw_i w3 3 2))]) dX4_readClause_19 rfl (Nat.le_of_ble_eq_true rfl) rfl ?_
    refine bw_aload_n (i := 0) dX4_readClause_20 rfl rfl ?_
    refine bw_getr (r := 3) fg_BentWords_LexiconReader_9 rfl rfl dX4_readClause_21 ?_
    refine bw_ldcs (k := 0) (tx := "noun") (by decide) dX4_readClause_24 ?_
    obtain ⟨Q4, hr, h⟩ := h
    refine bw_cVb (As := [.ref 1000]) (st := []) cv_BentWords_LexiconReader_59 rfl rfl hr rfl rfl (Nat.le_of_ble_eq_true rfl) dX4_readClause_26 (fun v5 w6 hv => ?_)
    replace h := h v5 w6 hv
    clear hr
    refine bw_ifb_eq (tgt := 38) dX4_readClause_29 (by decide) (fun c => ?_) (fun c => ?_)
    · replace h := h.1 (c)
      refine bw_aload_n (i := 0) dX4_readClause_38 rfl rfl ?_
      refine bw_getr (r := 3) fg_BentWords_LexiconReader_9 rfl rfl dX4_readClause_39 ?_
      refine bw_ldcs (k := 1) (tx := "form") (by decide) dX4_readClause_42 ?_
      obtain ⟨Q7, hr, h⟩ := h
      refine bw_cVb (As := [.ref 1001]) (st := []) cv_BentWords_LexiconReader_59 rfl rfl hr rfl rfl (Nat.le_of_ble_eq_true rfl) dX4_readClause_44 (fun v8 w9 hv => ?_)
      replace h := h v8 w9 hv
      clear hr
      refine bw_ifb_eq (tgt := 56) dX4_readClause_47 (by decide) (fun c => ?_) (fun c => ?_)
      · replace h := h.1 (c)
        refine bw_aload_n (i := 0) dX4_readClause_56 rfl rfl ?_
        refine bw_getr (r := 3) fg_BentWords_LexiconReader_9 rfl rfl dX4_readClause_57 ?_
        refine bw_ldcs (k := 2) (tx := "article") (by decide) dX4_readClause_60 ?_
        obtain ⟨Q10, hr, h⟩ := h
        refine bw_cVb (As := [.ref 1002]) (st := []) cv_BentWords_LexiconReader_59 rfl rfl hr rfl rfl (Nat.le_of_ble_eq_true rfl) dX4_readClause_62 (fun v11 w12 hv => ?_)
        replace h := h v11 w12 hv
        clear hr
        refine bw_ifb_eq (tgt := 81) dX4_readClause_65 (by decide) (fun c => ?_) (fun c => ?_)
        · replace h := h.1 (c)
          refine bw_aload_n (i := 0) dX4_readClause_81 rfl rfl ?_
          refine bw_getr (r := 3) fg_BentWords_LexiconReader_9 rfl rfl dX4_readClause_82 ?_
          refine bw_ldcs (k := 3) (tx := "pronoun") (by decide) dX4_readClause_85 ?_
          obtain ⟨Q13, hr, h⟩ := h
          refine bw_cVb (As := [.ref 1003]) (st := []) cv_BentWords_LexiconReader_59 rfl rfl hr rfl rfl (Nat.le_of_ble_eq_true rfl) dX4_readClause_87 (fun v14 w15 hv => ?_)
          replace h := h v14 w15 hv
          clear hr
          refine bw_ifb_eq (tgt := 106) dX4_readClause_90 (by decide) (fun c => ?_) (fun c => ?_)
          · replace h := h.1 (c)
            refine bw_aload_n (i := 0) dX4_readClause_106 rfl rfl ?_
            refine bw_getr (r := 3) fg_BentWords_LexiconReader_9 rfl rfl dX4_readClause_107 ?_
            refine bw_ldcs (k := 4) (tx := "message") (by decide) dX4_readClause_110 ?_
            obtain ⟨Q16, hr, h⟩ := h
            refine bw_cVb (As := [.ref 1004]) (st := []) cv_BentWords_LexiconReader_59 rfl rfl hr rfl rfl (Nat.le_of_ble_eq_true rfl) dX4_readClause_112 (fun v17 w18 hv => ?_)
            replace h := h v17 w18 hv
            clear hr
            refine bw_ifb_eq (tgt := 124) dX4_readClause_115 (by decide) (fun c => ?_) (fun c => ?_)
            · replace h := h.1 (c)
              refine bw_aload_n (i := 0) dX4_readClause_124 rfl rfl ?_
              refine bw_getr (r := 3) fg_BentWords_LexiconReader_9 rfl rfl dX4_readClause_125 ?_
              refine bw_iload_n (i := 1) dX4_readClause_128 rfl rfl ?_
              refine bw_cVb (As := [.int (gw_i w3 3 2)]) (st := []) (Q' := (fun v w1 => (decide False) = v ∧ (sw_i w18 3 3 (gw_i w3 3 2)) = w1)) cv_BentWords_LexiconReader_92 rfl rfl (fs_X0_fail (d := d + 6) (a0 := (gw_i w3 3 2))  ⟨rfl, rfl⟩) rfl rfl (Nat.le_of_ble_eq_true rfl) dX4_readClause_129 (fun v w1 hv => ?_)
              obtain ⟨rfl, rfl⟩ := hv
              exact bw_ireturn dX4_readClause_132 rfl (bw_nb _) ⟨_, rfl, h⟩
            · replace h := h.2 (c)
              refine bw_aload_n (i := 0) dX4_readClause_118 rfl rfl ?_
              refine bw_iload_n (i := 1) dX4_readClause_119 rfl rfl ?_
              obtain ⟨Q19, hr, h⟩ := h
              refine bw_cVb (As := [.int (gw_i w3 3 2)]) (st := []) cv_BentWords_LexiconReader_89 rfl rfl hr rfl rfl (Nat.le_of_ble_eq_true rfl) dX4_readClause_120 (fun v20 w21 hv => ?_)
              replace h := h v20 w21 hv
              clear hr
              exact bw_ireturn dX4_readClause_123 rfl (bw_nb _) ⟨_, rfl, h⟩
          · replace h := h.2 (c)
            refine bw_aload_n (i := 0) dX4_readClause_93 rfl rfl ?_
            refine bw_iload_n (i := 1) dX4_readClause_94 rfl rfl ?_
            refine bw_aload_n (i := 0) dX4_readClause_95 rfl rfl ?_
            refine bw_getr (r := 5) fg_BentWords_LexiconReader_18 rfl rfl dX4_readClause_96 ?_
            refine bw_getr (r := 10) fg_BentWords_LexiconReader_84 rfl rfl dX4_readClause_99 ?_
            obtain ⟨Q22, hr, h⟩ := h
            refine bw_cVb (As := [.int (gw_i w3 3 2), .ref 10]) (st := []) cv_BentWords_LexiconReader_78 rfl rfl hr rfl rfl (Nat.le_of_ble_eq_true rfl) dX4_readClause_102 (fun v23 w24 hv => ?_)
            replace h := h v23 w24 hv
            clear hr
            exact bw_ireturn dX4_readClause_105 rfl (bw_nb _) ⟨_, rfl, h⟩
        · replace h := h.2 (c)
          refine bw_aload_n (i := 0) dX4_readClause_68 rfl rfl ?_
          refine bw_iload_n (i := 1) dX4_readClause_69 rfl rfl ?_
          refine bw_aload_n (i := 0) dX4_readClause_70 rfl rfl ?_
          refine bw_getr (r := 5) fg_BentWords_LexiconReader_18 rfl rfl dX4_readClause_71 ?_
          refine bw_getr (r := 9) fg_BentWords_LexiconReader_74 rfl rfl dX4_readClause_74 ?_
          obtain ⟨Q25, hr, h⟩ := h
          refine bw_cVb (As := [.int (gw_i w3 3 2), .ref 9]) (st := []) cv_BentWords_LexiconReader_78 rfl rfl hr rfl rfl (Nat.le_of_ble_eq_true rfl) dX4_readClause_77 (fun v26 w27 hv => ?_)
          replace h := h v26 w27 hv
          clear hr
          exact bw_ireturn dX4_readClause_80 rfl (bw_nb _) ⟨_, rfl, h⟩
      · replace h := h.2 (c)
        refine bw_aload_n (i := 0) dX4_readClause_50 rfl rfl ?_
        refine bw_iload_n (i := 1) dX4_readClause_51 rfl rfl ?_
        obtain ⟨Q28, hr, h⟩ := h
        refine bw_cVb (As := [.int (gw_i w3 3 2)]) (st := []) cv_BentWords_LexiconReader_69 rfl rfl hr rfl rfl (Nat.le_of_ble_eq_true rfl) dX4_readClause_52 (fun v29 w30 hv => ?_)
        replace h := h v29 w30 hv
        clear hr
        exact bw_ireturn dX4_readClause_55 rfl (bw_nb _) ⟨_, rfl, h⟩
    · replace h := h.2 (c)
      refine bw_aload_n (i := 0) dX4_readClause_32 rfl rfl ?_
      refine bw_iload_n (i := 1) dX4_readClause_33 rfl rfl ?_
      obtain ⟨Q31, hr, h⟩ := h
      refine bw_cVb (As := [.int (gw_i w3 3 2)]) (st := []) cv_BentWords_LexiconReader_63 rfl rfl hr rfl rfl (Nat.le_of_ble_eq_true rfl) dX4_readClause_34 (fun v32 w33 hv => ?_)
      replace h := h v32 w33 hv
      clear hr
      exact bw_ireturn dX4_readClause_37 rfl (bw_nb _) ⟨_, rfl, h⟩
  · replace h := h.2 (c)
    refine bw_iconst (v := 0) dX4_readClause_10 (by decide) ?_
    exact bw_ireturn dX4_readClause_11 rfl (bw_nb false) ⟨false, rfl, h⟩
theorem wfX6_readStep {E : bw_E} {d : Nat} {w : bw_W} {Q : Bool → bw_W → Prop} {sp : Nat} (h_sp : bw_sh sp = (0, 8, 5)) (h : (∃ Q1 : Bool → bw_W → Prop, bw_rb E (d + 6) mX0_takeWord [.ref 3] w Q1 ∧ ∀ v2 w3, Q1 v2 w3 →
((v2 = true → (∃ Q4 : Bool → bw_W → Prop, bw_rb E (d + 6) mX0_wordIs [.ref 3, .ref 1005] (sw_l (sw_i (sw_i (sw_i (sw_i w3 sp 0 (-1)) sp 1 0) sp 2 0) sp 3 0) sp 4 0) Q4 ∧ ∀ v5 w6, Q4 v5 w6 →
((v5 = false → (∃ Q7 : Bool → bw_W → Prop, bw_rb E (d + 6) mX0_wordIs [.ref 3, .ref 1006] w6 Q7 ∧ ∀ v8 w9, Q7 v8 w9 →
((v8 = false → (∃ Q10 : Bool → bw_W → Prop, bw_rb E (d + 6) mX0_wordIs [.ref 3, .ref 1007] w9 Q10 ∧ ∀ v11 w12, Q10 v11 w12 →
((v11 = false → (∃ Q13 : Bool → bw_W → Prop, bw_rb E (d + 6) mX0_wordIs [.ref 3, .ref 1001] w12 Q13 ∧ ∀ v14 w15, Q13 v14 w15 →
((v14 = false → (∃ Q16 : Bool → bw_W → Prop, bw_rb E (d + 6) mX0_wordIs [.ref 3, .ref 1008] w15 Q16 ∧ ∀ v17 w18, Q16 v17 w18 →
((v17 = false → Q (decide False) (sw_i w18 3 3 (gw_i w18 3 2))) ∧ (v17 = true → (∃ Q19 : Bool → bw_W → Prop, bw_rb E (d + 6) mX6_readSlot [.ref 17, .ref sp] (sw_i w18 sp 0 4) Q19 ∧ ∀ v20 w21, Q19 v20 w21 →
Q v20 w21))))) ∧ (v14 = true → (∃ Q22 : Bool → bw_W → Prop, bw_rb E (d + 6) mX6_readSlot [.ref 17, .ref sp] (sw_i w15 sp 0 3) Q22 ∧ ∀ v23 w24, Q22 v23 w24 →
((v23 = false → Q false w24) ∧ (v23 = true → (∃ Q25 : Bool → bw_W → Prop, bw_rb E (d + 6) mX6_readWord [.ref 17, .ref sp] w24 Q25 ∧ ∀ v26 w27, Q25 v26 w27 →
((v26 = false → Q false w27) ∧ (v26 = true → Q true w27)))))))))) ∧ (v11 = true → (∃ Q28 : Bool → bw_W → Prop, bw_rb E (d + 6) mX6_readA [.ref 17, .ref sp, .int 1] (sw_i w12 sp 0 2) Q28 ∧ ∀ v29 w30, Q28 v29 w30 →
Q v29 w30))))) ∧ (v8 = true → (∃ Q31 : Bool → bw_W → Prop, bw_rb E (d + 6) mX6_readA [.ref 17, .ref sp, .int 2] (sw_i w9 sp 0 1) Q31 ∧ ∀ v32 w33, Q31 v32 w33 →
Q v32 w33))))) ∧ (v5 = true → (∃ Q34 : Bool → bw_W → Prop, bw_rb E (d + 6) mX6_readA [.ref 17, .ref sp, .int 2] (sw_i w6 sp 0 0) Q34 ∧ ∀ v35 w36, Q34 v35 w36 →
((v35 = false → Q false w36) ∧ (v35 = true → (∃ Q37 : Bool → bw_W → Prop, bw_rb E (d + 6) mX6_readB [.ref 17, .ref sp, .int 9] w36 Q37 ∧ ∀ v38 w39, Q37 v38 w39 →
((v38 = false → Q false w39) ∧ (v38 = true → (∃ Q40 : Bool → bw_W → Prop, bw_rb E (d + 6) mX6_readCount [.ref 17, .ref sp] w39 Q40 ∧ ∀ v41 w42, Q40 v41 w42 →
((v41 = false → Q false w42) ∧ (v41 = true → Q true w42))))))))))))) ∧ (v2 = false → Q false w3)))) : bw_rb E (d + 7) mX6_readStep [.ref 17, .ref sp] w Q := by
  refine bw_enter rfl (Nat.le_of_ble_eq_true rfl) ?_
  refine bw_aload_n (i := 0) dX6_readStep_0 rfl rfl ?_
  refine bw_getr (r := 3) fg_BentWords_ScriptReader_9 rfl rfl dX6_readStep_1 ?_
  obtain ⟨Q1, hr, h⟩ := h
  refine bw_cVb (As := []) (st := []) cv_BentWords_ScriptReader_48 rfl rfl hr rfl rfl (Nat.le_of_ble_eq_true rfl) dX6_readStep_4 (fun v2 w3 hv => ?_)
  replace h := h v2 w3 hv
  clear hr
  refine bw_ifb_ne (tgt := 12) dX6_readStep_7 (by decide) (fun c => ?_) (fun c => ?_)
  · replace h := h.1 (c)
    refine bw_aload_n (i := 1) dX6_readStep_12 rfl rfl ?_
    refine bw_iconst (v := (-1)) dX6_readStep_13 (by decide) ?_
    refine bw_iconst (v := 0) dX6_readStep_14 (by decide) ?_
    refine bw_iconst (v := 0) dX6_readStep_15 (by decide) ?_
    refine bw_iconst (v := 0) dX6_readStep_16 (by decide) ?_
    refine bw_lconst (v := 0) dX6_readStep_17 rfl ?_
    refine bw_cVv (As := [.int (-1), .int 0, .int 0, .int 0, .long 0]) (st := []) (Q' := (fun w1 => (sw_l (sw_i (sw_i (sw_i (sw_i w3 sp 0 (-1)) sp 1 0) sp 2 0) sp 3 0) sp 4 0) = w1)) cv_BentWords_ScriptReader_51 h_sp rfl (fs_X8_set (d := d + 6) (sp := sp) (a0 := (-1)) (a1 := 0) (a2 := 0) (a3 := 0) (a4 := 0) h_sp rfl) rfl rfl (Nat.le_of_ble_eq_true rfl) dX6_readStep_18 (fun w1 hv => ?_)
    subst hv
    refine bw_aload_n (i := 0) dX6_readStep_21 rfl rfl ?_
    refine bw_getr (r := 3) fg_BentWords_ScriptReader_9 rfl rfl dX6_readStep_22 ?_
    refine bw_ldcs (k := 5) (tx := "fill") (by decide) dX6_readStep_25 ?_
    obtain ⟨Q4, hr, h⟩ := h
    refine bw_cVb (As := [.ref 1005]) (st := []) cv_BentWords_ScriptReader_59 rfl rfl hr rfl rfl (Nat.le_of_ble_eq_true rfl) dX6_readStep_27 (fun v5 w6 hv => ?_)
    replace h := h v5 w6 hv
    clear hr
    refine bw_ifb_eq (tgt := 71) dX6_readStep_30 (by decide) (fun c => ?_) (fun c => ?_)
    · replace h := h.1 (c)
      refine bw_aload_n (i := 0) dX6_readStep_71 rfl rfl ?_
      refine bw_getr (r := 3) fg_BentWords_ScriptReader_9 rfl rfl dX6_readStep_72 ?_
      refine bw_ldcs (k := 6) (tx := "empty") (by decide) dX6_readStep_75 ?_
      obtain ⟨Q7, hr, h⟩ := h
      refine bw_cVb (As := [.ref 1006]) (st := []) cv_BentWords_ScriptReader_59 rfl rfl hr rfl rfl (Nat.le_of_ble_eq_true rfl) dX6_readStep_77 (fun v8 w9 hv => ?_)
      replace h := h v8 w9 hv
      clear hr
      refine bw_ifb_eq (tgt := 95) dX6_readStep_80 (by decide) (fun c => ?_) (fun c => ?_)
      · replace h := h.1 (c)
        refine bw_aload_n (i := 0) dX6_readStep_95 rfl rfl ?_
        refine bw_getr (r := 3) fg_BentWords_ScriptReader_9 rfl rfl dX6_readStep_96 ?_
        refine bw_ldcs (k := 7) (tx := "strict") (by decide) dX6_readStep_99 ?_
        obtain ⟨Q10, hr, h⟩ := h
        refine bw_cVb (As := [.ref 1007]) (st := []) cv_BentWords_ScriptReader_59 rfl rfl hr rfl rfl (Nat.le_of_ble_eq_true rfl) dX6_readStep_101 (fun v11 w12 hv => ?_)
        replace h := h v11 w12 hv
        clear hr
        refine bw_ifb_eq (tgt := 119) dX6_readStep_104 (by decide) (fun c => ?_) (fun c => ?_)
        · replace h := h.1 (c)
          refine bw_aload_n (i := 0) dX6_readStep_119 rfl rfl ?_
          refine bw_getr (r := 3) fg_BentWords_ScriptReader_9 rfl rfl dX6_readStep_120 ?_
          refine bw_ldcs (k := 1) (tx := "form") (by decide) dX6_readStep_123 ?_
          obtain ⟨Q13, hr, h⟩ := h
          refine bw_cVb (As := [.ref 1001]) (st := []) cv_BentWords_ScriptReader_59 rfl rfl hr rfl rfl (Nat.le_of_ble_eq_true rfl) dX6_readStep_125 (fun v14 w15 hv => ?_)
          replace h := h v14 w15 hv
          clear hr
          refine bw_ifb_eq (tgt := 158) dX6_readStep_128 (by decide) (fun c => ?_) (fun c => ?_)
          · replace h := h.1 (c)
            refine bw_aload_n (i := 0) dX6_readStep_158 rfl rfl ?_
            refine bw_getr (r := 3) fg_BentWords_ScriptReader_9 rfl rfl dX6_readStep_159 ?_
            refine bw_ldcs (k := 8) (tx := "drop") (by decide) dX6_readStep_162 ?_
            obtain ⟨Q16, hr, h⟩ := h
            refine bw_cVb (As := [.ref 1008]) (st := []) cv_BentWords_ScriptReader_59 rfl rfl hr rfl rfl (Nat.le_of_ble_eq_true rfl) dX6_readStep_164 (fun v17 w18 hv => ?_)
            replace h := h v17 w18 hv
            clear hr
            refine bw_ifb_eq (tgt := 181) dX6_readStep_167 (by decide) (fun c => ?_) (fun c => ?_)
            · replace h := h.1 (c)
              refine bw_aload_n (i := 0) dX6_readStep_181 rfl rfl ?_
              refine bw_getr (r := 3) fg_BentWords_ScriptReader_9 rfl rfl dX6_readStep_182 ?_
              refine bw_aload_n (i := 0) dX6_readStep_185 rfl rfl ?_
              refine bw_getr (r := 3) fg_BentWords_ScriptReader_9 rfl rfl dX6_readStep_186 ?_
              refine bw_geti fg_BentWords_ScriptReader_90 rfl dX6_readStep_189 ?_
              refine bw_cVb (As := [.int (gw_i w18 3 2)]) (st := []) (Q' := (fun v w1 => (decide False) = v ∧ (sw_i w18 3 3 (gw_i w18 3 2)) = w1)) cv_BentWords_ScriptReader_93 rfl rfl (fs_X0_fail (d := d + 6) (a0 := (gw_i w18 3 2))  ⟨rfl, rfl⟩) rfl rfl (Nat.le_of_ble_eq_true rfl) dX6_readStep_192 (fun v w1 hv => ?_)
              obtain ⟨rfl, rfl⟩ := hv
              exact bw_ireturn dX6_readStep_195 rfl (bw_nb _) ⟨_, rfl, h⟩
            · replace h := h.2 (c)
              refine bw_aload_n (i := 1) dX6_readStep_170 rfl rfl ?_
              refine bw_iconst (v := 4) dX6_readStep_171 (by decide) ?_
              refine bw_puti fp_BentWords_ScriptReader_63 h_sp rfl rfl dX6_readStep_172 ?_
              refine bw_aload_n (i := 0) dX6_readStep_175 rfl rfl ?_
              refine bw_aload_n (i := 1) dX6_readStep_176 rfl rfl ?_
              obtain ⟨Q19, hr, h⟩ := h
              refine bw_cVb (As := [.ref sp]) (st := []) cv_BentWords_ScriptReader_82 rfl rfl hr rfl rfl (Nat.le_of_ble_eq_true rfl) dX6_readStep_177 (fun v20 w21 hv => ?_)
              replace h := h v20 w21 hv
              clear hr
              exact bw_ireturn dX6_readStep_180 rfl (bw_nb _) ⟨_, rfl, h⟩
          · replace h := h.2 (c)
            refine bw_aload_n (i := 1) dX6_readStep_131 rfl rfl ?_
            refine bw_iconst (v := 3) dX6_readStep_132 (by decide) ?_
            refine bw_puti fp_BentWords_ScriptReader_63 h_sp rfl rfl dX6_readStep_133 ?_
            refine bw_aload_n (i := 0) dX6_readStep_136 rfl rfl ?_
            refine bw_aload_n (i := 1) dX6_readStep_137 rfl rfl ?_
            obtain ⟨Q22, hr, h⟩ := h
            refine bw_cVb (As := [.ref sp]) (st := []) cv_BentWords_ScriptReader_82 rfl rfl hr rfl rfl (Nat.le_of_ble_eq_true rfl) dX6_readStep_138 (fun v23 w24 hv => ?_)
            replace h := h v23 w24 hv
            clear hr
            refine bw_ifb_eq (tgt := 156) dX6_readStep_141 (by decide) (fun c => ?_) (fun c => ?_)
            · replace h := h.1 (c)
              refine bw_iconst (v := 0) dX6_readStep_156 (by decide) ?_
              exact bw_ireturn dX6_readStep_157 rfl (bw_nb false) ⟨false, rfl, h⟩
            · replace h := h.2 (c)
              refine bw_aload_n (i := 0) dX6_readStep_144 rfl rfl ?_
              refine bw_aload_n (i := 1) dX6_readStep_145 rfl rfl ?_
              obtain ⟨Q25, hr, h⟩ := h
              refine bw_cVb (As := [.ref sp]) (st := []) cv_BentWords_ScriptReader_85 rfl rfl hr rfl rfl (Nat.le_of_ble_eq_true rfl) dX6_readStep_146 (fun v26 w27 hv => ?_)
              replace h := h v26 w27 hv
              clear hr
              refine bw_ifb_eq (tgt := 156) dX6_readStep_149 (by decide) (fun c => ?_) (fun c => ?_)
              · replace h := h.1 (c)
                refine bw_iconst (v := 0) dX6_readStep_156 (by decide) ?_
                exact bw_ireturn dX6_readStep_157 rfl (bw_nb false) ⟨false, rfl, h⟩
              · replace h := h.2 (c)
                refine bw_iconst (v := 1) dX6_readStep_152 (by decide) ?_
                refine bw_goto (tgt := 157) dX6_readStep_153 (by decide) ?_
                exact bw_ireturn dX6_readStep_157 rfl (bw_nb true) ⟨true, rfl, h⟩
        · replace h := h.2 (c)
          refine bw_aload_n (i := 1) dX6_readStep_107 rfl rfl ?_
          refine bw_iconst (v := 2) dX6_readStep_108 (by decide) ?_
          refine bw_puti fp_BentWords_ScriptReader_63 h_sp rfl rfl dX6_readStep_109 ?_
          refine bw_aload_n (i := 0) dX6_readStep_112 rfl rfl ?_
          refine bw_aload_n (i := 1) dX6_readStep_113 rfl rfl ?_
          refine bw_iconst (v := 1) dX6_readStep_114 (by decide) ?_
          obtain ⟨Q28, hr, h⟩ := h
          refine bw_cVb (As := [.ref sp, .int 1]) (st := []) cv_BentWords_ScriptReader_66 rfl rfl hr rfl rfl (Nat.le_of_ble_eq_true rfl) dX6_readStep_115 (fun v29 w30 hv => ?_)
          replace h := h v29 w30 hv
          clear hr
          exact bw_ireturn dX6_readStep_118 rfl (bw_nb _) ⟨_, rfl, h⟩
      · replace h := h.2 (c)
        refine bw_aload_n (i := 1) dX6_readStep_83 rfl rfl ?_
        refine bw_iconst (v := 1) dX6_readStep_84 (by decide) ?_
        refine bw_puti fp_BentWords_ScriptReader_63 h_sp rfl rfl dX6_readStep_85 ?_
        refine bw_aload_n (i := 0) dX6_readStep_88 rfl rfl ?_
        refine bw_aload_n (i := 1) dX6_readStep_89 rfl rfl ?_
        refine bw_iconst (v := 2) dX6_readStep_90 (by decide) ?_
        obtain ⟨Q31, hr, h⟩ := h
        refine bw_cVb (As := [.ref sp, .int 2]) (st := []) cv_BentWords_ScriptReader_66 rfl rfl hr rfl rfl (Nat.le_of_ble_eq_true rfl) dX6_readStep_91 (fun v32 w33 hv => ?_)
        replace h := h v32 w33 hv
        clear hr
        exact bw_ireturn dX6_readStep_94 rfl (bw_nb _) ⟨_, rfl, h⟩
    · replace h := h.2 (c)
      refine bw_aload_n (i := 1) dX6_readStep_33 rfl rfl ?_
      refine bw_iconst (v := 0) dX6_readStep_34 (by decide) ?_
      refine bw_puti fp_BentWords_ScriptReader_63 h_sp rfl rfl dX6_readStep_35 ?_
      refine bw_aload_n (i := 0) dX6_readStep_38 rfl rfl ?_
      refine bw_aload_n (i := 1) dX6_readStep_39 rfl rfl ?_
      refine bw_iconst (v := 2) dX6_readStep_40 (by decide) ?_
      obtain ⟨Q34, hr, h⟩ := h
      refine bw_cVb (As := [.ref sp, .int 2]) (st := []) cv_BentWords_ScriptReader_66 rfl rfl hr rfl rfl (Nat.le_of_ble_eq_true rfl) dX6_readStep_41 (fun v35 w36 hv => ?_)
      replace h := h v35 w36 hv
      clear hr
      refine bw_ifb_eq (tgt := 69) dX6_readStep_44 (by decide) (fun c => ?_) (fun c => ?_)
      · replace h := h.1 (c)
        refine bw_iconst (v := 0) dX6_readStep_69 (by decide) ?_
        exact bw_ireturn dX6_readStep_70 rfl (bw_nb false) ⟨false, rfl, h⟩
      · replace h := h.2 (c)
        refine bw_aload_n (i := 0) dX6_readStep_47 rfl rfl ?_
        refine bw_aload_n (i := 1) dX6_readStep_48 rfl rfl ?_
        refine bw_bipush (v := 9) dX6_readStep_49 (by decide) ?_
        obtain ⟨Q37, hr, h⟩ := h
        refine bw_cVb (As := [.ref sp, .int 9]) (st := []) cv_BentWords_ScriptReader_70 rfl rfl hr rfl rfl (Nat.le_of_ble_eq_true rfl) dX6_readStep_51 (fun v38 w39 hv => ?_)
        replace h := h v38 w39 hv
        clear hr
        refine bw_ifb_eq (tgt := 69) dX6_readStep_54 (by decide) (fun c => ?_) (fun c => ?_)
        · replace h := h.1 (c)
          refine bw_iconst (v := 0) dX6_readStep_69 (by decide) ?_
          exact bw_ireturn dX6_readStep_70 rfl (bw_nb false) ⟨false, rfl, h⟩
        · replace h := h.2 (c)
          refine bw_aload_n (i := 0) dX6_readStep_57 rfl rfl ?_
          refine bw_aload_n (i := 1) dX6_readStep_58 rfl rfl ?_
          obtain ⟨Q40, hr, h⟩ := h
          refine bw_cVb (As := [.ref sp]) (st := []) cv_BentWords_ScriptReader_73 rfl rfl hr rfl rfl (Nat.le_of_ble_eq_true rfl) dX6_readStep_59 (fun v41 w42 hv => ?_)
          replace h := h v41 w42 hv
          clear hr
          refine bw_ifb_eq (tgt := 69) dX6_readStep_62 (by decide) (fun c => ?_) (fun c => ?_)
          · replace h := h.1 (c)
            refine bw_iconst (v := 0) dX6_readStep_69 (by decide) ?_
            exact bw_ireturn dX6_readStep_70 rfl (bw_nb false) ⟨false, rfl, h⟩
          · replace h := h.2 (c)
            refine bw_iconst (v := 1) dX6_readStep_65 (by decide) ?_
            refine bw_goto (tgt := 70) dX6_readStep_66 (by decide) ?_
            exact bw_ireturn dX6_readStep_70 rfl (bw_nb true) ⟨true, rfl, h⟩
  · replace h := h.2 (c)
    refine bw_iconst (v := 0) dX6_readStep_10 (by decide) ?_
    exact bw_ireturn dX6_readStep_11 rfl (bw_nb false) ⟨false, rfl, h⟩
theorem wfX12_clause {E : bw_E} {d : Nat} {w : bw_W} {Q : bw_W → Prop}   (h : ((¬ (((gw_i w 50 10) = (-1)) ∧ ((((gw_i w 50 4) = 1) ∧ (¬ (8 < (gw_i w 50 9)))) ∧ ((gw_l w 50 11) = 287078))) → ((¬ (((gw_i w 50 10) = (-1)) ∧ ((((gw_i w 50 4) = 1) ∧ (¬ (8 < (gw_i w 50 9)))) ∧ ((gw_l w 50 11) = 129532))) → ((¬ (((gw_i w 50 10) = (-1)) ∧ ((((gw_i w 50 4) = 1) ∧ (¬ (8 < (gw_i w 50 9)))) ∧ ((gw_l w 50 11) = 656509298))) → ((¬ (((gw_i w 50 10) = (-1)) ∧ ((((gw_i w 50 4) = 1) ∧ (¬ (8 < (gw_i w 50 9)))) ∧ ((gw_l w 50 11) = 6465266843))) → ((¬ (((gw_i w 50 10) = (-1)) ∧ ((((gw_i w 50 4) = 1) ∧ (¬ (8 < (gw_i w 50 9)))) ∧ ((gw_l w 50 11) = 5118683171))) → Q (sw_i w 50 10 (if ¬ (gw_i w 50 10) = (-1) then (gw_i w 50 10) else (gw_i w 50 5)))) ∧ (((gw_i w 50 10) = (-1)) ∧ ((((gw_i w 50 4) = 1) ∧ (¬ (8 < (gw_i w 50 9)))) ∧ ((gw_l w 50 11) = 5118683171)) → (∃ Q1 : bw_W → Prop, bw_rv E (d + 6) mX12_next [.ref 50] w Q1 ∧ ∀ w3, Q1 w3 →
(∃ Q4 : bw_W → Prop, bw_rv E (d + 6) mX12_readMessage [.ref 50, .int (gw_i w 50 5)] w3 Q4 ∧ ∀ w6, Q4 w6 →
Q w6))))) ∧ (((gw_i w 50 10) = (-1)) ∧ ((((gw_i w 50 4) = 1) ∧ (¬ (8 < (gw_i w 50 9)))) ∧ ((gw_l w 50 11) = 6465266843)) → (∃ Q7 : bw_W → Prop, bw_rv E (d + 6) mX12_next [.ref 50] w Q7 ∧ ∀ w9, Q7 w9 →
(∃ Q10 : bw_W → Prop, bw_rv E (d + 6) mX12_readsWord [.ref 50, .int 1, .int (gw_i w 50 5)] w9 Q10 ∧ ∀ w12, Q10 w12 →
Q w12))))) ∧ (((gw_i w 50 10) = (-1)) ∧ ((((gw_i w 50 4) = 1) ∧ (¬ (8 < (gw_i w 50 9)))) ∧ ((gw_l w 50 11) = 656509298)) → (∃ Q13 : bw_W → Prop, bw_rv E (d + 6) mX12_next [.ref 50] w Q13 ∧ ∀ w15, Q13 w15 →
(∃ Q16 : bw_W → Prop, bw_rv E (d + 6) mX12_readsWord [.ref 50, .int 0, .int (gw_i w 50 5)] w15 Q16 ∧ ∀ w18, Q16 w18 →
Q w18))))) ∧ (((gw_i w 50 10) = (-1)) ∧ ((((gw_i w 50 4) = 1) ∧ (¬ (8 < (gw_i w 50 9)))) ∧ ((gw_l w 50 11) = 129532)) → (∃ Q19 : bw_W → Prop, bw_rv E (d + 6) mX12_next [.ref 50] w Q19 ∧ ∀ w21, Q19 w21 →
(∃ Q22 : bw_W → Prop, bw_rv E (d + 6) mX12_readsForm [.ref 50, .int (gw_i w 50 5)] w21 Q22 ∧ ∀ w24, Q22 w24 →
Q w24))))) ∧ (((gw_i w 50 10) = (-1)) ∧ ((((gw_i w 50 4) = 1) ∧ (¬ (8 < (gw_i w 50 9)))) ∧ ((gw_l w 50 11) = 287078)) → (∃ Q25 : bw_W → Prop, bw_rv E (d + 6) mX12_next [.ref 50] w Q25 ∧ ∀ w27, Q25 w27 →
(∃ Q28 : bw_W → Prop, bw_rv E (d + 6) mX12_readNoun [.ref 50, .int (gw_i w 50 5)] w27 Q28 ∧ ∀ w30, Q28 w30 →
Q w30))))) : bw_rv E (d + 7) mX12_clause [.ref 50] w Q := by
  refine bw_enter rfl (Nat.le_of_ble_eq_true rfl) ?_
  refine bw_aload_n (i := 0) dX12_clause_0 rfl rfl ?_
  refine bw_geti fg_BentWordsModel_138 rfl dX12_clause_1 ?_
  refine bw_istore_n (i := 1) (L' := [some (.ref 50), some (.int (gw_i w 50 5)), none]) dX12_clause_4 rfl (Nat.le_of_ble_eq_true rfl) rfl ?_
  refine bw_aload_n (i := 0) dX12_clause_5 rfl rfl ?_
  refine bw_gets (f := "W_NOUN") (v := 287078) (by decide) ks_BentWordsModel_210 dX12_clause_6 ?_
  refine bw_cVb (As := [.long 287078]) (st := []) (Q' := (fun v w1 => (decide (((gw_i w 50 10) = (-1)) ∧ ((((gw_i w 50 4) = 1) ∧ (¬ (8 < (gw_i w 50 9)))) ∧ ((gw_l w 50 11) = 287078)))) = v ∧ w = w1)) cv_BentWordsModel_177 rfl rfl (fs_X12_isWord (d := d + 5) (a0 := 287078)  ⟨rfl, rfl⟩) rfl rfl (Nat.le_of_ble_eq_true rfl) dX12_clause_9 (fun v w1 hv => ?_)
  obtain ⟨rfl, rfl⟩ := hv
  refine bw_ifb_eq (tgt := 19) dX12_clause_12 (by decide) (fun c => ?_) (fun c => ?_)
  · replace h := h.1 (of_decide_eq_false c)
    refine bw_aload_n (i := 0) dX12_clause_19 rfl rfl ?_
    refine bw_gets (f := "W_FORM") (v := 129532) (by decide) ks_BentWordsModel_213 dX12_clause_20 ?_
    refine bw_cVb (As := [.long 129532]) (st := []) (Q' := (fun v w1 => (decide (((gw_i w 50 10) = (-1)) ∧ ((((gw_i w 50 4) = 1) ∧ (¬ (8 < (gw_i w 50 9)))) ∧ ((gw_l w 50 11) = 129532)))) = v ∧ w = w1)) cv_BentWordsModel_177 rfl rfl (fs_X12_isWord (d := d + 5) (a0 := 129532)  ⟨rfl, rfl⟩) rfl rfl (Nat.le_of_ble_eq_true rfl) dX12_clause_23 (fun v w1 hv => ?_)
    obtain ⟨rfl, rfl⟩ := hv
    refine bw_ifb_eq (tgt := 33) dX12_clause_26 (by decide) (fun c => ?_) (fun c => ?_)
    · replace h := h.1 (of_decide_eq_false c)
      refine bw_aload_n (i := 0) dX12_clause_33 rfl rfl ?_
      refine bw_gets (f := "W_ARTICLE") (v := 656509298) (by decide) ks_BentWordsModel_216 dX12_clause_34 ?_
      refine bw_cVb (As := [.long 656509298]) (st := []) (Q' := (fun v w1 => (decide (((gw_i w 50 10) = (-1)) ∧ ((((gw_i w 50 4) = 1) ∧ (¬ (8 < (gw_i w 50 9)))) ∧ ((gw_l w 50 11) = 656509298)))) = v ∧ w = w1)) cv_BentWordsModel_177 rfl rfl (fs_X12_isWord (d := d + 5) (a0 := 656509298)  ⟨rfl, rfl⟩) rfl rfl (Nat.le_of_ble_eq_true rfl) dX12_clause_37 (fun v w1 hv => ?_)
      obtain ⟨rfl, rfl⟩ := hv
      refine bw_ifb_eq (tgt := 47) dX12_clause_40 (by decide) (fun c => ?_) (fun c => ?_)
      · replace h := h.1 (of_decide_eq_false c)
        refine bw_aload_n (i := 0) dX12_clause_47 rfl rfl ?_
        refine bw_gets (f := "W_PRONOUN") (v := 6465266843) (by decide) ks_BentWordsModel_219 dX12_clause_48 ?_
        refine bw_cVb (As := [.long 6465266843]) (st := []) (Q' := (fun v w1 => (decide (((gw_i w 50 10) = (-1)) ∧ ((((gw_i w 50 4) = 1) ∧ (¬ (8 < (gw_i w 50 9)))) ∧ ((gw_l w 50 11) = 6465266843)))) = v ∧ w = w1)) cv_BentWordsModel_177 rfl rfl (fs_X12_isWord (d := d + 5) (a0 := 6465266843)  ⟨rfl, rfl⟩) rfl rfl (Nat.le_of_ble_eq_true rfl) dX12_clause_51 (fun v w1 hv => ?_)
        obtain ⟨rfl, rfl⟩ := hv
        refine bw_ifb_eq (tgt := 61) dX12_clause_54 (by decide) (fun c => ?_) (fun c => ?_)
        · replace h := h.1 (of_decide_eq_false c)
          refine bw_aload_n (i := 0) dX12_clause_61 rfl rfl ?_
          refine bw_gets (f := "W_MESSAGE") (v := 5118683171) (by decide) ks_BentWordsModel_222 dX12_clause_62 ?_
          refine bw_cVb (As := [.long 5118683171]) (st := []) (Q' := (fun v w1 => (decide (((gw_i w 50 10) = (-1)) ∧ ((((gw_i w 50 4) = 1) ∧ (¬ (8 < (gw_i w 50 9)))) ∧ ((gw_l w 50 11) = 5118683171)))) = v ∧ w = w1)) cv_BentWordsModel_177 rfl rfl (fs_X12_isWord (d := d + 5) (a0 := 5118683171)  ⟨rfl, rfl⟩) rfl rfl (Nat.le_of_ble_eq_true rfl) dX12_clause_65 (fun v w1 hv => ?_)
          obtain ⟨rfl, rfl⟩ := hv
          refine bw_ifb_eq (tgt := 75) dX12_clause_68 (by decide) (fun c => ?_) (fun c => ?_)
          · replace h := h.1 (of_decide_eq_false c)
            refine bw_iconst (v := (-1)) dX12_clause_75 (by decide) ?_
            refine bw_istore_n (i := 2) (L' := [some (.ref 50), some (.int (gw_i w 50 5)), some (.int (-1))]) dX12_clause_76 rfl (Nat.le_of_ble_eq_true rfl) rfl ?_
            refine bw_iload_n (i := 2) dX12_clause_77 rfl rfl ?_
            refine bw_iconst (v := (-1)) dX12_clause_78 (by decide) ?_
            refine bw_icmp_ne (tgt := 87) dX12_clause_79 (by decide) (fun c => absurd c (by decide)) (fun _ => ?_)
            refine bw_aload_n (i := 0) dX12_clause_82 rfl rfl ?_
            refine bw_cVv (As := []) (st := []) (Q' := (fun w1 => (sw_i w 50 10 (if ¬ (gw_i w 50 10) = (-1) then (gw_i w 50 10) else (gw_i w 50 5))) = w1)) cv_BentWordsModel_167 rfl rfl (fs_X12_bad (d := d + 5)   rfl) rfl rfl (Nat.le_of_ble_eq_true rfl) dX12_clause_83 (fun w1 hv => ?_)
            subst hv
            exact bw_return dX12_clause_86 rfl ⟨rfl, h⟩
          · replace h := h.2 (of_decide_eq_true c)
            refine bw_iconst (v := 4) dX12_clause_71 (by decide) ?_
            refine bw_goto (tgt := 76) dX12_clause_72 (by decide) ?_
            refine bw_istore_n (i := 2) (L' := [some (.ref 50), some (.int (gw_i w 50 5)), some (.int 4)]) dX12_clause_76 rfl (Nat.le_of_ble_eq_true rfl) rfl ?_
            refine bw_iload_n (i := 2) dX12_clause_77 rfl rfl ?_
            refine bw_iconst (v := (-1)) dX12_clause_78 (by decide) ?_
            refine bw_icmp_ne (tgt := 87) dX12_clause_79 (by decide) (fun _ => ?_) (fun c => absurd c (by decide))
            refine bw_aload_n (i := 0) dX12_clause_87 rfl rfl ?_
            obtain ⟨Q1, hr, h⟩ := h
            refine bw_cVv (As := []) (st := []) cv_BentWordsModel_160 rfl rfl hr rfl rfl (Nat.le_of_ble_eq_true rfl) dX12_clause_88 (fun w3 hv => ?_)
            replace h := h w3 hv
            clear hr
            refine bw_iload_n (i := 2) dX12_clause_91 rfl rfl ?_
            refine bw_tableOut (tgt := 158) dX12_clause_92 (by decide) (by decide) ?_
            refine bw_aload_n (i := 0) dX12_clause_158 rfl rfl ?_
            refine bw_iload_n (i := 1) dX12_clause_159 rfl rfl ?_
            obtain ⟨Q4, hr, h⟩ := h
            refine bw_cVv (As := [.int (gw_i w 50 5)]) (st := []) cv_BentWordsModel_235 rfl rfl hr rfl rfl (Nat.le_of_ble_eq_true rfl) dX12_clause_160 (fun w6 hv => ?_)
            replace h := h w6 hv
            clear hr
            exact bw_return dX12_clause_163 rfl ⟨rfl, h⟩
        · replace h := h.2 (of_decide_eq_true c)
          refine bw_iconst (v := 3) dX12_clause_57 (by decide) ?_
          refine bw_goto (tgt := 76) dX12_clause_58 (by decide) ?_
          refine bw_istore_n (i := 2) (L' := [some (.ref 50), some (.int (gw_i w 50 5)), some (.int 3)]) dX12_clause_76 rfl (Nat.le_of_ble_eq_true rfl) rfl ?_
          refine bw_iload_n (i := 2) dX12_clause_77 rfl rfl ?_
          refine bw_iconst (v := (-1)) dX12_clause_78 (by decide) ?_
          refine bw_icmp_ne (tgt := 87) dX12_clause_79 (by decide) (fun _ => ?_) (fun c => absurd c (by decide))
          refine bw_aload_n (i := 0) dX12_clause_87 rfl rfl ?_
          obtain ⟨Q7, hr, h⟩ := h
          refine bw_cVv (As := []) (st := []) cv_BentWordsModel_160 rfl rfl hr rfl rfl (Nat.le_of_ble_eq_true rfl) dX12_clause_88 (fun w9 hv => ?_)
          replace h := h w9 hv
          clear hr
          refine bw_iload_n (i := 2) dX12_clause_91 rfl rfl ?_
          refine bw_tableIn (off := 48) (tgt := 140) dX12_clause_92 (by decide) (by decide) rfl (by decide) ?_
          refine bw_aload_n (i := 0) dX12_clause_140 rfl rfl ?_
          refine bw_iload_n (i := 2) dX12_clause_141 rfl rfl ?_
          refine bw_iconst (v := 3) dX12_clause_142 (by decide) ?_
          refine bw_icmp_ne (tgt := 150) dX12_clause_143 (by decide) (fun c => absurd c (by decide)) (fun _ => ?_)
          refine bw_iconst (v := 1) dX12_clause_146 (by decide) ?_
          refine bw_goto (tgt := 151) dX12_clause_147 (by decide) ?_
          refine bw_iload_n (i := 1) dX12_clause_151 rfl rfl ?_
          obtain ⟨Q10, hr, h⟩ := h
          refine bw_cVv (As := [.int 1, .int (gw_i w 50 5)]) (st := []) cv_BentWordsModel_231 rfl rfl hr rfl rfl (Nat.le_of_ble_eq_true rfl) dX12_clause_152 (fun w12 hv => ?_)
          replace h := h w12 hv
          clear hr
          refine bw_goto (tgt := 163) dX12_clause_155 (by decide) ?_
          exact bw_return dX12_clause_163 rfl ⟨rfl, h⟩
      · replace h := h.2 (of_decide_eq_true c)
        refine bw_iconst (v := 2) dX12_clause_43 (by decide) ?_
        refine bw_goto (tgt := 76) dX12_clause_44 (by decide) ?_
        refine bw_istore_n (i := 2) (L' := [some (.ref 50), some (.int (gw_i w 50 5)), some (.int 2)]) dX12_clause_76 rfl (Nat.le_of_ble_eq_true rfl) rfl ?_
        refine bw_iload_n (i := 2) dX12_clause_77 rfl rfl ?_
        refine bw_iconst (v := (-1)) dX12_clause_78 (by decide) ?_
        refine bw_icmp_ne (tgt := 87) dX12_clause_79 (by decide) (fun _ => ?_) (fun c => absurd c (by decide))
        refine bw_aload_n (i := 0) dX12_clause_87 rfl rfl ?_
        obtain ⟨Q13, hr, h⟩ := h
        refine bw_cVv (As := []) (st := []) cv_BentWordsModel_160 rfl rfl hr rfl rfl (Nat.le_of_ble_eq_true rfl) dX12_clause_88 (fun w15 hv => ?_)
        replace h := h w15 hv
        clear hr
        refine bw_iload_n (i := 2) dX12_clause_91 rfl rfl ?_
        refine bw_tableIn (off := 48) (tgt := 140) dX12_clause_92 (by decide) (by decide) rfl (by decide) ?_
        refine bw_aload_n (i := 0) dX12_clause_140 rfl rfl ?_
        refine bw_iload_n (i := 2) dX12_clause_141 rfl rfl ?_
        refine bw_iconst (v := 3) dX12_clause_142 (by decide) ?_
        refine bw_icmp_ne (tgt := 150) dX12_clause_143 (by decide) (fun _ => ?_) (fun c => absurd c (by decide))
        refine bw_iconst (v := 0) dX12_clause_150 (by decide) ?_
        refine bw_iload_n (i := 1) dX12_clause_151 rfl rfl ?_
        obtain ⟨Q16, hr, h⟩ := h
        refine bw_cVv (As := [.int 0, .int (gw_i w 50 5)]) (st := []) cv_BentWordsModel_231 rfl rfl hr rfl rfl (Nat.le_of_ble_eq_true rfl) dX12_clause_152 (fun w18 hv => ?_)
        replace h := h w18 hv
        clear hr
        refine bw_goto (tgt := 163) dX12_clause_155 (by decide) ?_
        exact bw_return dX12_clause_163 rfl ⟨rfl, h⟩
    · replace h := h.2 (of_decide_eq_true c)
      refine bw_iconst (v := 1) dX12_clause_29 (by decide) ?_
      refine bw_goto (tgt := 76) dX12_clause_30 (by decide) ?_
      refine bw_istore_n (i := 2) (L' := [some (.ref 50), some (.int (gw_i w 50 5)), some (.int 1)]) dX12_clause_76 rfl (Nat.le_of_ble_eq_true rfl) rfl ?_
      refine bw_iload_n (i := 2) dX12_clause_77 rfl rfl ?_
      refine bw_iconst (v := (-1)) dX12_clause_78 (by decide) ?_
      refine bw_icmp_ne (tgt := 87) dX12_clause_79 (by decide) (fun _ => ?_) (fun c => absurd c (by decide))
      refine bw_aload_n (i := 0) dX12_clause_87 rfl rfl ?_
      obtain ⟨Q19, hr, h⟩ := h
      refine bw_cVv (As := []) (st := []) cv_BentWordsModel_160 rfl rfl hr rfl rfl (Nat.le_of_ble_eq_true rfl) dX12_clause_88 (fun w21 hv => ?_)
      replace h := h w21 hv
      clear hr
      refine bw_iload_n (i := 2) dX12_clause_91 rfl rfl ?_
      refine bw_tableIn (off := 40) (tgt := 132) dX12_clause_92 (by decide) (by decide) rfl (by decide) ?_
      refine bw_aload_n (i := 0) dX12_clause_132 rfl rfl ?_
      refine bw_iload_n (i := 1) dX12_clause_133 rfl rfl ?_
      obtain ⟨Q22, hr, h⟩ := h
      refine bw_cVv (As := [.int (gw_i w 50 5)]) (st := []) cv_BentWordsModel_228 rfl rfl hr rfl rfl (Nat.le_of_ble_eq_true rfl) dX12_clause_134 (fun w24 hv => ?_)
      replace h := h w24 hv
      clear hr
      refine bw_goto (tgt := 163) dX12_clause_137 (by decide) ?_
      exact bw_return dX12_clause_163 rfl ⟨rfl, h⟩
  · replace h := h.2 (of_decide_eq_true c)
    refine bw_iconst (v := 0) dX12_clause_15 (by decide) ?_
    refine bw_goto (tgt := 76) dX12_clause_16 (by decide) ?_
    refine bw_istore_n (i := 2) (L' := [some (.ref 50), some (.int (gw_i w 50 5)), some (.int 0)]) dX12_clause_76 rfl (Nat.le_of_ble_eq_true rfl) rfl ?_
    refine bw_iload_n (i := 2) dX12_clause_77 rfl rfl ?_
    refine bw_iconst (v := (-1)) dX12_clause_78 (by decide) ?_
    refine bw_icmp_ne (tgt := 87) dX12_clause_79 (by decide) (fun _ => ?_) (fun c => absurd c (by decide))
    refine bw_aload_n (i := 0) dX12_clause_87 rfl rfl ?_
    obtain ⟨Q25, hr, h⟩ := h
    refine bw_cVv (As := []) (st := []) cv_BentWordsModel_160 rfl rfl hr rfl rfl (Nat.le_of_ble_eq_true rfl) dX12_clause_88 (fun w27 hv => ?_)
    replace h := h w27 hv
    clear hr
    refine bw_iload_n (i := 2) dX12_clause_91 rfl rfl ?_
    refine bw_tableIn (off := 32) (tgt := 124) dX12_clause_92 (by decide) (by decide) rfl (by decide) ?_
    refine bw_aload_n (i := 0) dX12_clause_124 rfl rfl ?_
    refine bw_iload_n (i := 1) dX12_clause_125 rfl rfl ?_
    obtain ⟨Q28, hr, h⟩ := h
    refine bw_cVv (As := [.int (gw_i w 50 5)]) (st := []) cv_BentWordsModel_225 rfl rfl hr rfl rfl (Nat.le_of_ble_eq_true rfl) dX12_clause_126 (fun w30 hv => ?_)
    replace h := h w30 hv
    clear hr
    refine bw_goto (tgt := 163) dX12_clause_129 (by decide) ?_
    exact bw_return dX12_clause_163 rfl ⟨rfl, h⟩
theorem wfX12_tellableMany {E : bw_E} {d : Nat} {w : bw_W} {Q : Int32 → bw_W → Prop}   (h : (∃ Q1 : Int32 → bw_W → Prop, bw_ri E (d + 6) mX12_tellable [.ref 50] w Q1 ∧ ∀ v2 w3, Q1 v2 w3 →
(∃ Q4 : Int32 → bw_W → Prop, bw_ri E (d + 6) mX12_bits [.int v2] w3 Q4 ∧ ∀ v5 w6, Q4 v5 w6 →
Q v5 w6))) : bw_ri E (d + 7) mX12_tellableMany [.ref 50] w Q := by
  refine bw_enter rfl (Nat.le_of_ble_eq_true rfl) ?_
  refine bw_aload_n (i := 0) dX12_tellableMany_0 rfl rfl ?_
  obtain ⟨Q1, hr, h⟩ := h
  refine bw_cVi (As := []) (st := []) cv_BentWordsModel_367 rfl rfl hr rfl rfl (Nat.le_of_ble_eq_true rfl) dX12_tellableMany_1 (fun v2 w3 hv => ?_)
  replace h := h v2 w3 hv
  clear hr
  obtain ⟨Q4, hr, h⟩ := h
  refine bw_cSi (As := [.int v2]) (st := []) cs_BentWordsModel_370 hr rfl rfl (Nat.le_of_ble_eq_true rfl) dX12_tellableMany_4 (fun v5 w6 hv => ?_)
  replace h := h v5 w6 hv
  clear hr
  exact bw_ireturn dX12_tellableMany_7 rfl rfl ⟨_, rfl, h⟩
theorem wfX12_rule {E : bw_E} {d : Nat} {w : bw_W} {Q : Int32 → bw_W → Prop} {a0 : Int32}  (h : ((¬ (¬ ((gw_i w 50 34) ≤ 0)) → Q (-1) w) ∧ ((¬ ((gw_i w 50 34) ≤ 0)) → (((¬ (a0 < 0)) ∧ (¬ (6 < a0)) → ((a0 = 0 → Q (gw_i w 50 34) w) ∧ (a0 = 1 → Q (gw_i w 50 35) w) ∧ (a0 = 2 → (∃ Q1 : Int32 → bw_W → Prop, bw_ri E (d + 6) mX12_wordsTold [.ref 50, .int 0] w Q1 ∧ ∀ v2 w3, Q1 v2 w3 →
Q v2 w3)) ∧ (a0 = 3 → (∃ Q4 : Int32 → bw_W → Prop, bw_ri E (d + 6) mX12_wordsTold [.ref 50, .int 24] w Q4 ∧ ∀ v5 w6, Q4 v5 w6 →
Q v5 w6)) ∧ (a0 = 4 → (∃ Q7 : Int32 → bw_W → Prop, bw_ri E (d + 6) mX12_formsTold [.ref 50] w Q7 ∧ ∀ v8 w9, Q7 v8 w9 →
Q v8 w9)) ∧ (a0 = 5 → Q ((gw_l w 63 0).toInt32) w) ∧ (a0.toInt < 0 ∨ 5 < a0.toInt → (∃ Q10 : Int32 → bw_W → Prop, bw_ri E (d + 6) mX12_tellable [.ref 50] w Q10 ∧ ∀ v11 w12, Q10 v11 w12 →
Q v11 w12)))) ∧ (¬ ((¬ (a0 < 0)) ∧ (¬ (6 < a0))) → Q (-1) w))))) : bw_ri E (d + 7) mX12_rule [.ref 50, .int a0] w Q := by
  refine bw_enter rfl (Nat.le_of_ble_eq_true rfl) ?_
  refine bw_aload_n (i := 0) dX12_rule_0 rfl rfl ?_
  refine bw_cVb (As := []) (st := []) (Q' := (fun v w1 => (decide (¬ ((gw_i w 50 34) ≤ 0))) = v ∧ w = w1)) cv_BentWordsModel_272 rfl rfl (fs_X12_isLexicon (d := d + 6)   ⟨rfl, rfl⟩) rfl rfl (Nat.le_of_ble_eq_true rfl) dX12_rule_1 (fun v w1 hv => ?_)
  obtain ⟨rfl, rfl⟩ := hv
  refine bw_ifb_eq (tgt := 17) dX12_rule_4 (by decide) (fun c => ?_) (fun c => ?_)
  · replace h := h.1 (of_decide_eq_false c)
    refine bw_iconst (v := (-1)) dX12_rule_17 (by decide) ?_
    exact bw_ireturn dX12_rule_18 rfl rfl ⟨_, rfl, h⟩
  · replace h := h.2 (of_decide_eq_true c)
    refine bw_iload_n (i := 1) dX12_rule_7 rfl rfl ?_
    refine bw_iconst (v := 0) dX12_rule_8 (by decide) ?_
    refine bw_bipush (v := 6) dX12_rule_9 (by decide) ?_
    refine bw_cSb (As := [.int a0, .int 0, .int 6]) (st := []) (Q' := (fun v w1 => (decide ((¬ (a0 < 0)) ∧ (¬ (6 < a0)))) = v ∧ w = w1)) cs_BentWordsModel_100 (fs_X12_in (d := d + 6) (a0 := a0) (a1 := 0) (a2 := 6)  ⟨rfl, rfl⟩) rfl rfl (Nat.le_of_ble_eq_true rfl) dX12_rule_11 (fun v w1 hv => ?_)
    obtain ⟨rfl, rfl⟩ := hv
    refine bw_ifb_ne (tgt := 19) dX12_rule_14 (by decide) (fun c => ?_) (fun c => ?_)
    · replace h := h.1 (of_decide_eq_true c)
      refine bw_iload_n (i := 1) dX12_rule_19 rfl rfl ?_
      refine bw_tabsw dX12_rule_20 [60, 65, 70, 76, 83, 88] 96 (by decide) rfl rfl (fun j hj hx => ?_) (fun hx => ?_)
      · match j, hj, hx with
        | 0, _, hx =>
          replace h := h.1 (bw_ti hx (by decide))
          refine bw_aload_n (i := 0) dX12_rule_60 rfl rfl ?_
          refine bw_geti fg_BentWordsModel_269 rfl dX12_rule_61 ?_
          exact bw_ireturn dX12_rule_64 rfl rfl ⟨_, rfl, h⟩
        | 1, _, hx =>
          replace h := h.2.1 (bw_ti hx (by decide))
          refine bw_aload_n (i := 0) dX12_rule_65 rfl rfl ?_
          refine bw_geti fg_BentWordsModel_275 rfl dX12_rule_66 ?_
          exact bw_ireturn dX12_rule_69 rfl rfl ⟨_, rfl, h⟩
        | 2, _, hx =>
          replace h := h.2.2.1 (bw_ti hx (by decide))
          refine bw_aload_n (i := 0) dX12_rule_70 rfl rfl ?_
          refine bw_iconst (v := 0) dX12_rule_71 (by decide) ?_
          obtain ⟨Q1, hr, h⟩ := h
          refine bw_cVi (As := [.int 0]) (st := []) cv_BentWordsModel_444 rfl rfl hr rfl rfl (Nat.le_of_ble_eq_true rfl) dX12_rule_72 (fun v2 w3 hv => ?_)
          replace h := h v2 w3 hv
          clear hr
          exact bw_ireturn dX12_rule_75 rfl rfl ⟨_, rfl, h⟩
        | 3, _, hx =>
          replace h := h.2.2.2.1 (bw_ti hx (by decide))
          refine bw_aload_n (i := 0) dX12_rule_76 rfl rfl ?_
          refine bw_bipush (v := 24) dX12_rule_77 (by decide) ?_
          obtain ⟨Q4, hr, h⟩ := h
          refine bw_cVi (As := [.int 24]) (st := []) cv_BentWordsModel_444 rfl rfl hr rfl rfl (Nat.le_of_ble_eq_true rfl) dX12_rule_79 (fun v5 w6 hv => ?_)
          replace h := h v5 w6 hv
          clear hr
          exact bw_ireturn dX12_rule_82 rfl rfl ⟨_, rfl, h⟩
        | 4, _, hx =>
          replace h := h.2.2.2.2.1 (bw_ti hx (by decide))
          refine bw_aload_n (i := 0) dX12_rule_83 rfl rfl ?_
          obtain ⟨Q7, hr, h⟩ := h
          refine bw_cVi (As := []) (st := []) cv_BentWordsModel_447 rfl rfl hr rfl rfl (Nat.le_of_ble_eq_true rfl) dX12_rule_84 (fun v8 w9 hv => ?_)
          replace h := h v8 w9 hv
          clear hr
          exact bw_ireturn dX12_rule_87 rfl rfl ⟨_, rfl, h⟩
        | 5, _, hx =>
          replace h := h.2.2.2.2.2.1 (bw_ti hx (by decide))
          refine bw_aload_n (i := 0) dX12_rule_88 rfl rfl ?_
          refine bw_getr (r := 63) fg_BentWordsModel_47 rfl rfl dX12_rule_89 ?_
          refine bw_iconst (v := 0) dX12_rule_92 (by decide) ?_
          refine bw_laload rfl (by unfold vp_in; decide) dX12_rule_93 ?_
          rw [show gw_l w 63 (Int32.toNatClampNeg 0) = (gw_l w 63 0) from rfl]
          refine bw_l2i dX12_rule_94 ?_
          exact bw_ireturn dX12_rule_95 rfl rfl ⟨_, rfl, h⟩
        | j + 6, hj, _ => exact absurd hj (by simp)
      · replace h := h.2.2.2.2.2.2 hx
        refine bw_aload_n (i := 0) dX12_rule_96 rfl rfl ?_
        obtain ⟨Q10, hr, h⟩ := h
        refine bw_cVi (As := []) (st := []) cv_BentWordsModel_367 rfl rfl hr rfl rfl (Nat.le_of_ble_eq_true rfl) dX12_rule_97 (fun v11 w12 hv => ?_)
        replace h := h v11 w12 hv
        clear hr
        exact bw_ireturn dX12_rule_100 rfl rfl ⟨_, rfl, h⟩
    · replace h := h.2 (of_decide_eq_false c)
      refine bw_iconst (v := (-1)) dX12_rule_17 (by decide) ?_
      exact bw_ireturn dX12_rule_18 rfl rfl ⟨_, rfl, h⟩
theorem wfX12_would {E : bw_E} {d : Nat} {w : bw_W} {Q : Int32 → bw_W → Prop} {a0 : Int32} {a1 : Int32} {a2 : Int32}  (h : ((((¬ ((gw_i w 50 34) ≤ 0)) ∧ ((¬ (a0 < 0)) ∧ (¬ (2 < a0)))) → ((¬ (a1 < 0)) ∧ (¬ (((gw_i w 50 34) - 1) < a1))) → ((¬ (a2 < 0)) ∧ (¬ (99 < a2))) → (((vp_in (1 + (2 * a0)) 236))))) ∧
((((¬ ((gw_i w 50 34) ≤ 0)) ∧ ((¬ (a0 < 0)) ∧ (¬ (2 < a0)))) → ((¬ (a1 < 0)) ∧ (¬ (((gw_i w 50 34) - 1) < a1))) → ((¬ (a2 < 0)) ∧ (¬ (99 < a2))) → ((vX12_nounIn w a0) = a1) → (((vp_in ((1 + (2 * a0)) + 1) 236))))) ∧
(((vX12_whyFill w a0 a1 a2) = (-1) → (∃ Q3 : bw_W → Prop, bw_rv E (d + 6) mX12_putAside [.ref 50] w Q3 ∧ ∀ w5, Q3 w5 →
(((vp_in (1 + (2 * a0)) 236))) ∧
(((vp_in ((1 + (2 * a0)) + 1) 236))) ∧
(((((((vp_in ((1 + (2 * a0)) + 1) 236))))))) ∧
(∃ Q9 : Int32 → bw_W → Prop, bw_ri E (d + 6) mX12_tellable [.ref 50] (sw_l (sw_l w5 63 ((1 + (2 * a0)).toNatClampNeg) (a1.toInt64)) 63 (((1 + (2 * a0)) + 1).toNatClampNeg) (a2.toInt64)) Q9 ∧ ∀ v10 w11, Q9 v10 w11 →
(∃ Q12 : bw_W → Prop, bw_rv E (d + 6) mX12_bringBack [.ref 50] w11 Q12 ∧ ∀ w14, Q12 w14 →
Q v10 w14)))) ∧ (¬ ((vX12_whyFill w a0 a1 a2) = (-1)) → Q (-1) w))) : bw_ri E (d + 7) mX12_would [.ref 50, .int a0, .int a1, .int a2] w Q := by
  refine bw_enter rfl (Nat.le_of_ble_eq_true rfl) ?_
  refine bw_aload_n (i := 0) dX12_would_0 rfl rfl ?_
  refine bw_iload_n (i := 1) dX12_would_1 rfl rfl ?_
  refine bw_iload_n (i := 2) dX12_would_2 rfl rfl ?_
  refine bw_iload_n (i := 3) dX12_would_3 rfl rfl ?_
  obtain ⟨hc1, h⟩ := h
  obtain ⟨hc2, h⟩ := h
  refine bw_cVi (As := [.int a0, .int a1, .int a2]) (st := []) (Q' := (fun v w1 => (vX12_whyFill w a0 a1 a2) = v ∧ w = w1)) cv_BentWordsModel_379 rfl rfl (fs_X12_whyFill (d := d + 4) (a0 := a0) (a1 := a1) (a2 := a2) hc1 hc2 ⟨rfl, rfl⟩) rfl rfl (Nat.le_of_ble_eq_true rfl) dX12_would_4 (fun v w1 hv => ?_)
  obtain ⟨rfl, rfl⟩ := hv
  refine bw_iconst (v := (-1)) dX12_would_7 (by decide) ?_
  refine bw_icmp_eq (tgt := 13) dX12_would_8 (by decide) (fun c => ?_) (fun c => ?_)
  · replace h := h.1 (c)
    refine bw_aload_n (i := 0) dX12_would_13 rfl rfl ?_
    obtain ⟨Q3, hr, h⟩ := h
    refine bw_cVv (As := []) (st := []) cv_BentWordsModel_478 rfl rfl hr rfl rfl (Nat.le_of_ble_eq_true rfl) dX12_would_14 (fun w5 hv => ?_)
    replace h := h w5 hv
    clear hr
    refine bw_aload_n (i := 0) dX12_would_17 rfl rfl ?_
    refine bw_iload_n (i := 1) dX12_would_18 rfl rfl ?_
    refine bw_iload_n (i := 2) dX12_would_19 rfl rfl ?_
    refine bw_iload_n (i := 3) dX12_would_20 rfl rfl ?_
    obtain ⟨hc6, h⟩ := h
    obtain ⟨hc7, h⟩ := h
    obtain ⟨hc8, h⟩ := h
    refine bw_cVi (As := [.int a0, .int a1, .int a2]) (st := []) (Q' := (fun v w1 => (vX12_fillsNow w5 a0 a1 a2) = v ∧ (sw_l (sw_l w5 63 ((1 + (2 * a0)).toNatClampNeg) (a1.toInt64)) 63 (((1 + (2 * a0)) + 1).toNatClampNeg) (a2.toInt64)) = w1)) cv_BentWordsModel_386 rfl rfl (fs_X12_fillsNow (d := d + 4) (a0 := a0) (a1 := a1) (a2 := a2) hc6 hc7 hc8 ⟨rfl, rfl⟩) rfl rfl (Nat.le_of_ble_eq_true rfl) dX12_would_21 (fun v w1 hv => ?_)
    obtain ⟨rfl, rfl⟩ := hv
    refine bw_pop dX12_would_24 rfl ?_
    refine bw_aload_n (i := 0) dX12_would_25 rfl rfl ?_
    obtain ⟨Q9, hr, h⟩ := h
    refine bw_cVi (As := []) (st := []) cv_BentWordsModel_367 rfl rfl hr rfl rfl (Nat.le_of_ble_eq_true rfl) dX12_would_26 (fun v10 w11 hv => ?_)
    replace h := h v10 w11 hv
    clear hr
    refine bw_istore (i := 4) (L' := [some (.ref 50), some (.int a0), some (.int a1), some (.int a2), some (.int v10)]) dX12_would_29 (Nat.le_of_ble_eq_true rfl) rfl ?_
    refine bw_aload_n (i := 0) dX12_would_31 rfl rfl ?_
    obtain ⟨Q12, hr, h⟩ := h
    refine bw_cVv (As := []) (st := []) cv_BentWordsModel_481 rfl rfl hr rfl rfl (Nat.le_of_ble_eq_true rfl) dX12_would_32 (fun w14 hv => ?_)
    replace h := h w14 hv
    clear hr
    refine bw_iload dX12_would_35 rfl ?_
    exact bw_ireturn dX12_would_37 rfl rfl ⟨_, rfl, h⟩
  · replace h := h.2 (c)
    refine bw_iconst (v := (-1)) dX12_would_11 (by decide) ?_
    exact bw_ireturn dX12_would_12 rfl rfl ⟨_, rfl, h⟩
theorem wfX12_most {E : bw_E} {d : Nat} {w : bw_W} {Q : Int32 → bw_W → Prop} {a0 : Int32}  (h : ((¬ (¬ ((gw_i w 50 34) ≤ 0)) → Q (-1000000) w) ∧ ((¬ ((gw_i w 50 34) ≤ 0)) → (((¬ (a0 < 0)) ∧ (¬ (10 < a0)) → (∃ Q1 : bw_W → Prop, bw_rv E (d + 6) mX12_laysLongest [.ref 50] w Q1 ∧ ∀ w3, Q1 w3 →
((a0 = 0 → Q (gw_i w3 50 48) w3) ∧ (a0 = 1 → Q (gw_i w3 50 49) w3) ∧ (a0 = 2 → (∃ Q4 : Int32 → bw_W → Prop, bw_ri E (d + 6) mX12_missingOfAll [.ref 50] w3 Q4 ∧ ∀ v5 w6, Q4 v5 w6 →
Q v5 w6)) ∧ (a0 = 3 → (∃ Q7 : Int32 → bw_W → Prop, bw_ri E (d + 6) mX12_poorestNoun [.ref 50] w3 Q7 ∧ ∀ v8 w9, Q7 v8 w9 →
Q v8 w9)) ∧ (a0 = 4 → (∃ Q10 : Int32 → bw_W → Prop, bw_ri E (d + 6) mX12_filled [.ref 50] w3 Q10 ∧ ∀ v11 w12, Q10 v11 w12 →
Q v11 w12)) ∧ (a0 = 5 → (∃ Q13 : Int32 → bw_W → Prop, bw_ri E (d + 6) mX12_twiceOnes [.ref 50] w3 Q13 ∧ ∀ v14 w15, Q13 v14 w15 →
Q v14 w15)) ∧ (a0.toInt < 0 ∨ 5 < a0.toInt → (∃ Q16 : Int32 → bw_W → Prop, bw_ri E (d + 6) mX12_messagesWhy [.ref 50, .int (a0 - 6)] w3 Q16 ∧ ∀ v17 w18, Q16 v17 w18 →
Q v17 w18))))) ∧ (¬ ((¬ (a0 < 0)) ∧ (¬ (10 < a0))) → Q (-1000000) w))))) : bw_ri E (d + 7) mX12_most [.ref 50, .int a0] w Q := by
  refine bw_enter rfl (Nat.le_of_ble_eq_true rfl) ?_
  refine bw_aload_n (i := 0) dX12_most_0 rfl rfl ?_
  refine bw_cVb (As := []) (st := []) (Q' := (fun v w1 => (decide (¬ ((gw_i w 50 34) ≤ 0))) = v ∧ w = w1)) cv_BentWordsModel_272 rfl rfl (fs_X12_isLexicon (d := d + 6)   ⟨rfl, rfl⟩) rfl rfl (Nat.le_of_ble_eq_true rfl) dX12_most_1 (fun v w1 hv => ?_)
  obtain ⟨rfl, rfl⟩ := hv
  refine bw_ifb_eq (tgt := 17) dX12_most_4 (by decide) (fun c => ?_) (fun c => ?_)
  · replace h := h.1 (of_decide_eq_false c)
    refine bw_ldcw ki_BentWordsModel_259 dX12_most_17 ?_
    exact bw_ireturn dX12_most_20 rfl rfl ⟨_, rfl, h⟩
  · replace h := h.2 (of_decide_eq_true c)
    refine bw_iload_n (i := 1) dX12_most_7 rfl rfl ?_
    refine bw_iconst (v := 0) dX12_most_8 (by decide) ?_
    refine bw_bipush (v := 10) dX12_most_9 (by decide) ?_
    refine bw_cSb (As := [.int a0, .int 0, .int 10]) (st := []) (Q' := (fun v w1 => (decide ((¬ (a0 < 0)) ∧ (¬ (10 < a0)))) = v ∧ w = w1)) cs_BentWordsModel_100 (fs_X12_in (d := d + 6) (a0 := a0) (a1 := 0) (a2 := 10)  ⟨rfl, rfl⟩) rfl rfl (Nat.le_of_ble_eq_true rfl) dX12_most_11 (fun v w1 hv => ?_)
    obtain ⟨rfl, rfl⟩ := hv
    refine bw_ifb_ne (tgt := 21) dX12_most_14 (by decide) (fun c => ?_) (fun c => ?_)
    · replace h := h.1 (of_decide_eq_true c)
      refine bw_aload_n (i := 0) dX12_most_21 rfl rfl ?_
      obtain ⟨Q1, hr, h⟩ := h
      refine bw_cVv (As := []) (st := []) cv_BentWordsModel_509 rfl rfl hr rfl rfl (Nat.le_of_ble_eq_true rfl) dX12_most_22 (fun w3 hv => ?_)
      replace h := h w3 hv
      clear hr
      refine bw_iload_n (i := 1) dX12_most_25 rfl rfl ?_
      refine bw_tabsw dX12_most_26 [64, 69, 74, 79, 84, 89] 94 (by decide) rfl rfl (fun j hj hx => ?_) (fun hx => ?_)
      · match j, hj, hx with
        | 0, _, hx =>
          replace h := h.1 (bw_ti hx (by decide))
          refine bw_aload_n (i := 0) dX12_most_64 rfl rfl ?_
          refine bw_geti fg_BentWordsModel_500 rfl dX12_most_65 ?_
          exact bw_ireturn dX12_most_68 rfl rfl ⟨_, rfl, h⟩
        | 1, _, hx =>
          replace h := h.2.1 (bw_ti hx (by decide))
          refine bw_aload_n (i := 0) dX12_most_69 rfl rfl ?_
          refine bw_geti fg_BentWordsModel_503 rfl dX12_most_70 ?_
          exact bw_ireturn dX12_most_73 rfl rfl ⟨_, rfl, h⟩
        | 2, _, hx =>
          replace h := h.2.2.1 (bw_ti hx (by decide))
          refine bw_aload_n (i := 0) dX12_most_74 rfl rfl ?_
          obtain ⟨Q4, hr, h⟩ := h
          refine bw_cVi (As := []) (st := []) cv_BentWordsModel_512 rfl rfl hr rfl rfl (Nat.le_of_ble_eq_true rfl) dX12_most_75 (fun v5 w6 hv => ?_)
          replace h := h v5 w6 hv
          clear hr
          exact bw_ireturn dX12_most_78 rfl rfl ⟨_, rfl, h⟩
        | 3, _, hx =>
          replace h := h.2.2.2.1 (bw_ti hx (by decide))
          refine bw_aload_n (i := 0) dX12_most_79 rfl rfl ?_
          obtain ⟨Q7, hr, h⟩ := h
          refine bw_cVi (As := []) (st := []) cv_BentWordsModel_515 rfl rfl hr rfl rfl (Nat.le_of_ble_eq_true rfl) dX12_most_80 (fun v8 w9 hv => ?_)
          replace h := h v8 w9 hv
          clear hr
          exact bw_ireturn dX12_most_83 rfl rfl ⟨_, rfl, h⟩
        | 4, _, hx =>
          replace h := h.2.2.2.2.1 (bw_ti hx (by decide))
          refine bw_aload_n (i := 0) dX12_most_84 rfl rfl ?_
          obtain ⟨Q10, hr, h⟩ := h
          refine bw_cVi (As := []) (st := []) cv_BentWordsModel_518 rfl rfl hr rfl rfl (Nat.le_of_ble_eq_true rfl) dX12_most_85 (fun v11 w12 hv => ?_)
          replace h := h v11 w12 hv
          clear hr
          exact bw_ireturn dX12_most_88 rfl rfl ⟨_, rfl, h⟩
        | 5, _, hx =>
          replace h := h.2.2.2.2.2.1 (bw_ti hx (by decide))
          refine bw_aload_n (i := 0) dX12_most_89 rfl rfl ?_
          obtain ⟨Q13, hr, h⟩ := h
          refine bw_cVi (As := []) (st := []) cv_BentWordsModel_521 rfl rfl hr rfl rfl (Nat.le_of_ble_eq_true rfl) dX12_most_90 (fun v14 w15 hv => ?_)
          replace h := h v14 w15 hv
          clear hr
          exact bw_ireturn dX12_most_93 rfl rfl ⟨_, rfl, h⟩
        | j + 6, hj, _ => exact absurd hj (by simp)
      · replace h := h.2.2.2.2.2.2 hx
        refine bw_aload_n (i := 0) dX12_most_94 rfl rfl ?_
        refine bw_iload_n (i := 1) dX12_most_95 rfl rfl ?_
        refine bw_bipush (v := 6) dX12_most_96 (by decide) ?_
        refine bw_isub dX12_most_98 ?_
        obtain ⟨Q16, hr, h⟩ := h
        refine bw_cVi (As := [.int (a0 - 6)]) (st := []) cv_BentWordsModel_524 rfl rfl hr rfl rfl (Nat.le_of_ble_eq_true rfl) dX12_most_99 (fun v17 w18 hv => ?_)
        replace h := h v17 w18 hv
        clear hr
        exact bw_ireturn dX12_most_102 rfl rfl ⟨_, rfl, h⟩
    · replace h := h.2 (of_decide_eq_false c)
      refine bw_ldcw ki_BentWordsModel_259 dX12_most_17 ?_
      exact bw_ireturn dX12_most_20 rfl rfl ⟨_, rfl, h⟩
theorem wfX4_findFault_16 {E : bw_E} {d : Nat} {w : bw_W} {Q : Int32 → bw_W → Prop} {l1 : Int32}  (h : ((480 < l1 → Q (gw_i w 3 1) w) ∧ (¬ (480 < l1) → (∃ Q1 : Bool → bw_W → Prop, bw_rb E (d + 7) mX4_readClause [.ref 4] w Q1 ∧ ∀ v2 w3, Q1 v2 w3 →
((v2 = true → (∃ Q4 : Bool → bw_W → Prop, bw_rb E (d + 7) mX0_isAtEnd [.ref 3] w3 Q4 ∧ ∀ v5 w6, Q4 v5 w6 →
((v5 = false → (∃ Q7 : Int32 → bw_W → Prop, bw_ri E (d + 7) mX0_nextSign [.ref 3] w6 Q7 ∧ ∀ v8 w9, Q7 v8 w9 →
((v8 = 59 → bw_G E (d + 8) mX4_findFault 16 [some (.ref 4), some (.int (l1 + 1))] [] (sw_i w9 3 1 ((gw_i w9 3 1) + 1)) (bw_qi Q)) ∧ (¬ (v8 = 59) → Q (gw_i w9 3 1) w9)))) ∧ (v5 = true → ((¬ (gw_i w6 5 0) = 0 → Q (-1) w6) ∧ ((gw_i w6 5 0) = 0 → Q (gw_i w6 3 1) w6)))))) ∧ (v2 = false → Q (gw_i w3 3 3) w3)))))) : bw_G E (d + 8) mX4_findFault 16 [some (.ref 4), some (.int l1)] [] w (bw_qi Q) := by
  refine bw_iload_n (i := 1) dX4_findFault_16 rfl rfl ?_
  refine bw_sipush (v := 480) dX4_findFault_17 (by decide) ?_
  refine bw_icmp_gt (tgt := 109) dX4_findFault_20 (by decide) (fun c => ?_) (fun c => ?_)
  · replace h := h.1 (c)
    refine bw_aload_n (i := 0) dX4_findFault_109 rfl rfl ?_
    refine bw_getr (r := 3) fg_BentWords_LexiconReader_9 rfl rfl dX4_findFault_110 ?_
    refine bw_geti fg_BentWords_LexiconReader_44 rfl dX4_findFault_113 ?_
    exact bw_ireturn dX4_findFault_116 rfl rfl ⟨_, rfl, h⟩
  · replace h := h.2 (c)
    refine bw_aload_n (i := 0) dX4_findFault_23 rfl rfl ?_
    obtain ⟨Q1, hr, h⟩ := h
    refine bw_cVb (As := []) (st := []) cv_BentWords_LexiconReader_30 rfl rfl hr rfl rfl (Nat.le_of_ble_eq_true rfl) dX4_findFault_24 (fun v2 w3 hv => ?_)
    replace h := h v2 w3 hv
    clear hr
    refine bw_ifb_ne (tgt := 38) dX4_findFault_27 (by decide) (fun c => ?_) (fun c => ?_)
    · replace h := h.1 (c)
      refine bw_aload_n (i := 0) dX4_findFault_38 rfl rfl ?_
      refine bw_getr (r := 3) fg_BentWords_LexiconReader_9 rfl rfl dX4_findFault_39 ?_
      obtain ⟨Q4, hr, h⟩ := h
      refine bw_cVb (As := []) (st := []) cv_BentWords_LexiconReader_38 rfl rfl hr rfl rfl (Nat.le_of_ble_eq_true rfl) dX4_findFault_42 (fun v5 w6 hv => ?_)
      replace h := h v5 w6 hv
      clear hr
      refine bw_ifb_eq (tgt := 70) dX4_findFault_45 (by decide) (fun c => ?_) (fun c => ?_)
      · replace h := h.1 (c)
        refine bw_aload_n (i := 0) dX4_findFault_70 rfl rfl ?_
        refine bw_getr (r := 3) fg_BentWords_LexiconReader_9 rfl rfl dX4_findFault_71 ?_
        obtain ⟨Q7, hr, h⟩ := h
        refine bw_cVi (As := []) (st := []) cv_BentWords_LexiconReader_47 rfl rfl hr rfl rfl (Nat.le_of_ble_eq_true rfl) dX4_findFault_74 (fun v8 w9 hv => ?_)
        replace h := h v8 w9 hv
        clear hr
        refine bw_bipush (v := 59) dX4_findFault_77 (by decide) ?_
        refine bw_icmp_eq (tgt := 90) dX4_findFault_79 (by decide) (fun c => ?_) (fun c => ?_)
        · replace h := h.1 (c)
          refine bw_aload_n (i := 0) dX4_findFault_90 rfl rfl ?_
          refine bw_getr (r := 3) fg_BentWords_LexiconReader_9 rfl rfl dX4_findFault_91 ?_
          refine bw_dup dX4_findFault_94 rfl ?_
          refine bw_geti fg_BentWords_LexiconReader_44 rfl dX4_findFault_95 ?_
          refine bw_iconst (v := 1) dX4_findFault_98 (by decide) ?_
          refine bw_iadd dX4_findFault_99 ?_
          refine bw_puti fp_BentWords_LexiconReader_44 rfl rfl rfl dX4_findFault_100 ?_
          refine bw_iinc (i := 1) (x := l1) (v := (l1 + 1)) (L' := [some (.ref 4), some (.int (l1 + 1))]) dX4_findFault_103 rfl rfl (Nat.le_of_ble_eq_true rfl) rfl ?_
          refine bw_goto (tgt := 16) dX4_findFault_106 (by decide) ?_
          exact h
        · replace h := h.2 (c)
          refine bw_aload_n (i := 0) dX4_findFault_82 rfl rfl ?_
          refine bw_getr (r := 3) fg_BentWords_LexiconReader_9 rfl rfl dX4_findFault_83 ?_
          refine bw_geti fg_BentWords_LexiconReader_44 rfl dX4_findFault_86 ?_
          exact bw_ireturn dX4_findFault_89 rfl rfl ⟨_, rfl, h⟩
      · replace h := h.2 (c)
        refine bw_aload_n (i := 0) dX4_findFault_48 rfl rfl ?_
        refine bw_getr (r := 5) fg_BentWords_LexiconReader_18 rfl rfl dX4_findFault_49 ?_
        refine bw_geti fg_BentWords_LexiconReader_41 rfl dX4_findFault_52 ?_
        refine bw_if_ne (tgt := 68) dX4_findFault_55 (by decide) (fun c => ?_) (fun c => ?_)
        · replace h := h.1 (c)
          refine bw_iconst (v := (-1)) dX4_findFault_68 (by decide) ?_
          exact bw_ireturn dX4_findFault_69 rfl rfl ⟨_, rfl, h⟩
        · replace h := h.2 (c)
          refine bw_aload_n (i := 0) dX4_findFault_58 rfl rfl ?_
          refine bw_getr (r := 3) fg_BentWords_LexiconReader_9 rfl rfl dX4_findFault_59 ?_
          refine bw_geti fg_BentWords_LexiconReader_44 rfl dX4_findFault_62 ?_
          refine bw_goto (tgt := 69) dX4_findFault_65 (by decide) ?_
          exact bw_ireturn dX4_findFault_69 rfl rfl ⟨_, rfl, h⟩
    · replace h := h.2 (c)
      refine bw_aload_n (i := 0) dX4_findFault_30 rfl rfl ?_
      refine bw_getr (r := 3) fg_BentWords_LexiconReader_9 rfl rfl dX4_findFault_31 ?_
      refine bw_geti fg_BentWords_LexiconReader_34 rfl dX4_findFault_34 ?_
      exact bw_ireturn dX4_findFault_37 rfl rfl ⟨_, rfl, h⟩
theorem wfX4_findFault {E : bw_E} {d : Nat} {w : bw_W} {Q : Int32 → bw_W → Prop}   (h : (∃ Q1 : bw_W → Prop, bw_rv E (d + 7) mX3_clear [.ref 5] w Q1 ∧ ∀ w3, Q1 w3 →
bw_G E (d + 8) mX4_findFault 16 [some (.ref 4), some (.int 0)] [] (sw_i w3 3 1 0) (bw_qi Q))) : bw_ri E (d + 8) mX4_findFault [.ref 4] w Q := by
  refine bw_enter rfl (Nat.le_of_ble_eq_true rfl) ?_
  refine bw_aload_n (i := 0) dX4_findFault_0 rfl rfl ?_
  refine bw_getr (r := 5) fg_BentWords_LexiconReader_18 rfl rfl dX4_findFault_1 ?_
  obtain ⟨Q1, hr, h⟩ := h
  refine bw_cVv (As := []) (st := []) cv_BentWords_LexiconReader_22 rfl rfl hr rfl rfl (Nat.le_of_ble_eq_true rfl) dX4_findFault_4 (fun w3 hv => ?_)
  replace h := h w3 hv
  clear hr
  refine bw_aload_n (i := 0) dX4_findFault_7 rfl rfl ?_
  refine bw_getr (r := 3) fg_BentWords_LexiconReader_9 rfl rfl dX4_findFault_8 ?_
  refine bw_cVv (As := []) (st := []) (Q' := (fun w1 => (sw_i w3 3 1 0) = w1)) cv_BentWords_LexiconReader_25 rfl rfl (fs_X0_rewind (d := d + 7)   rfl) rfl rfl (Nat.le_of_ble_eq_true rfl) dX4_findFault_11 (fun w1 hv => ?_)
  subst hv
  refine bw_iconst (v := 0) dX4_findFault_14 (by decide) ?_
  refine bw_istore_n (i := 1) (L' := [some (.ref 4), some (.int 0)]) dX4_findFault_15 rfl (Nat.le_of_ble_eq_true rfl) rfl ?_
  exact h
