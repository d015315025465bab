section MOST2
variable {E : bw_E} {d : Nat} {w : bw_W} {X : bm_X} {N : bm_N} {Q : Int32 → bw_W → Prop}
theorem bm_tg_mono {n f g : Nat} (h : bm_tg N n f g = true) : ∀ k, g ≤ k → bm_tg N n f k = true
  | 0, hk => by
    have : g = 0 := by omega
    subst this; exact h
  | k + 1, hk => by
    by_cases e : g = k + 1
    · subst e; exact h
    · rw [bm_tg, bm_tg_mono h k (by omega)]; rfl
theorem xs_twin {Q : Bool → bw_W → Prop} (hN : bx_N N w) (hW : bm_wfN X N) {i : Nat} (hi : i < 48) (hq : Q (bm_tg N (i / 8) (i % 8) 8) w) : bw_rb E (d + 0) mX11_hasTwin [.ref 0, .int (nI i)] w Q := by
  have e8 : nI i - (nI i - nI i / 8 * 8) = nI (8 * (i / 8)) := by
    rw [nl_8, pk_rem (by omega) (by decide) (by decide), pk_sub (Nat.mod_le _ _)]
    congr 1; omega
  have key : ∀ m g, g + m = 8 → bm_tg N (i / 8) (i % 8) g = false → bw_G E (d + 0) mX11_hasTwin 9 [some (.ref 0), some (.int (nI i)), some (.int (nI (8 * (i / 8)))), some (.int (nI (8 * (i / 8) + g)))] [] w (bw_qb Q) := by
    intro m
    induction m with
    | zero =>
      intro g hg ht
      have e : g = 8 := by omega
      subst e
      rw [ht] at hq
      refine wfX11_hasTwin_9 (br_t ?_ hq)
      rw [nl_8, nI_add]; exact Int32.le_refl _
    | succ m ih =>
      intro g hg ht
      have IH := ih (g + 1) (by omega)
      refine wfX11_hasTwin_9 (br_f ?_ ?_)
      · rw [nl_8, nI_add]; exact nI_ge (by omega) (by omega)
      · rw [nI_eq (by omega) (by omega), nI_1, nI_clamp (by omega), nI_clamp (by omega), hN.1 _ (by omega), hN.1 _ hi, bx_w_eq (hW.1 _ (by omega)) (hW.1 _ hi)]
        rw [bm_tg, ht, Bool.false_or] at IH
        have ei : 8 * (i / 8) + i % 8 = i := by omega
        rw [ei] at IH
        refine ⟨fun z => IH ?_, fun z => ⟨bm_in (by omega) (by decide), bm_in (by omega) (by decide), fun y => IH ?_, fun y => ?_⟩⟩
        · rw [decide_eq_false (by omega : ¬ g ≠ i % 8)]; rfl
        · rw [decide_eq_false y, Bool.and_false]
        · have h1 : bm_tg N (i / 8) (i % 8) (g + 1) = true := by
            rw [bm_tg, ht, Bool.false_or, ei, decide_eq_true y, decide_eq_true (by omega : g ≠ i % 8)]; rfl
          rw [bm_tg_mono h1 8 (by omega)] at hq
          exact hq
  refine wfX11_hasTwin ?_
  rw [e8]
  exact key 8 0 rfl rfl
theorem xs_twice (hN : bx_N N w) (hW : bm_wfN X N) (hq : Q (nI (fa_cnt (bm_tw N) 48)) w) : bw_ri E (d + 1) mX11_formsToldTwice [.ref 0] w Q := by
  have key : ∀ m i, i + m = 48 → bw_G E (d + 1) mX11_formsToldTwice 4 [some (.ref 0), some (.int (nI (fa_cnt (bm_tw N) i))), some (.int (nI i))] [] w (bw_qi Q) := by
    intro m
    induction m with
    | zero =>
      intro i hi
      have e : i = 48 := by omega
      subst e
      exact wfX11_formsToldTwice_4 (br_t (by decide) hq)
    | succ m ih =>
      intro i hi
      have IH := ih (i + 1) (by omega)
      refine wfX11_formsToldTwice_4 (br_f (nI_ge (a := i) (b := 48) (by omega) (by decide)) ⟨bm_in (by omega) (by decide), ?_⟩)
      rw [nI_clamp (by omega), hN.1 _ (by omega), bx_w0 (hW.1 _ (by omega)), nI_1, nI_1]
      refine ⟨fun z => ?_, fun z => ⟨fun v w3 => bm_tg N (i / 8) (i % 8) 8 = v ∧ w = w3, xs_twin hN hW (by omega) ⟨rfl, rfl⟩, ?_⟩⟩
      · rw [fa_cnt_no (by unfold bm_tw; simp [z])] at IH; exact IH
      · rintro _ _ ⟨rfl, rfl⟩
        refine ⟨fun y => ?_, fun y => ?_⟩
        · rw [fa_cnt_no (by unfold bm_tw; rw [y, Bool.and_false])] at IH; exact IH
        · rw [fa_cnt_yes (by unfold bm_tw; rw [y]; simp [z])] at IH; exact IH
  exact wfX11_formsToldTwice (key 48 0 rfl)
theorem ys_twin {Q : Bool → bw_W → Prop} (hN : by_N N w) (hW : bm_wfN X N) {n f : Nat} (hn : n < 6) (hf : f < 8) (hq : Q (bm_tw N (8 * n + f)) w) : bw_rb E (d + 0) mX12_isTwice [.ref 50, .int (nI n), .int (nI f)] w Q := by
  have eq1 : (8 * n + f) / 8 = n := by omega
  have eq2 : (8 * n + f) % 8 = f := by omega
  unfold bm_tw at hq
  rw [eq1, eq2] at hq
  have key : ∀ m g, g + m = 8 → bm_tg N n f g = false → bw_G E (d + 0) mX12_isTwice 2 [some (.ref 50), some (.int (nI n)), some (.int (nI f)), some (.int (nI g))] [] w (bw_qb Q) := by
    intro m
    induction m with
    | zero =>
      intro g hg ht
      have e : g = 8 := by omega
      subst e
      rw [ht, Bool.and_false] at hq
      exact wfX12_isTwice_2 (br_t (by decide) hq)
    | succ m ih =>
      intro g hg ht
      have IH := ih (g + 1) (by omega)
      refine wfX12_isTwice_2 (br_f (nI_ge (a := g) (b := 8) (by omega) (by decide)) ?_)
      rw [nI_eq (by omega) (by omega), nl_7, nl_8, pk_mul, nI_add, nI_add, nI_add, nI_1, nI_clamp (by omega), nI_clamp (by omega), Nat.add_assoc, Nat.add_assoc, hN.1 _ (by omega), hN.1 _ (by omega), by_w_eq (hW.1 _ (by omega)) (hW.1 _ (by omega)), by_w0 (hW.1 _ (by omega))]
      rw [bm_tg, ht, Bool.false_or] at IH
      refine ⟨fun z => IH ?_, fun z => ⟨bm_in (by omega) (by decide), bm_in (by omega) (by decide), fun y => IH ?_, fun y => ⟨bm_in (by omega) (by decide), fun x => ?_, fun x => ?_⟩⟩⟩
      · rw [decide_eq_false (by omega : ¬ g ≠ f)]; rfl
      · rw [decide_eq_false y, Bool.and_false]
      · rw [decide_eq_false (by simp [x])] at hq; exact hq
      · have h1 : bm_tg N n f (g + 1) = true := by
          rw [bm_tg, ht, Bool.false_or, decide_eq_true y, decide_eq_true z]; rfl
        rw [bm_tg_mono h1 8 (by omega), decide_eq_true x] at hq
        exact hq
  exact wfX12_isTwice (key 8 0 rfl rfl)
theorem ys_twice (hX : by_X X w) (hx : bm_wfX X) (hN : by_N N w) (hW : bm_wfN X N) (hF : bm_wfF X N) (hq : Q (nI (fa_cnt (bm_tw N) 48)) w) : bw_ri E (d + 1) mX12_twiceOnes [.ref 50] w Q := by
  have h6 := hx.1
  have h48 : ∀ k, 8 * bm_nn X ≤ k → k ≤ 48 → fa_cnt (bm_tw N) k = fa_cnt (bm_tw N) (8 * bm_nn X) := by
    intro k
    induction k with
    | zero => intro h1 _; rw [show 8 * bm_nn X = 0 by omega]
    | succ k ih =>
      intro h1 h2
      by_cases e : 8 * bm_nn X = k + 1
      · rw [e]
      · rw [fa_cnt_no (by unfold bm_tw; rw [hF k (by omega) (by omega)]; rfl)]
        exact ih (by omega) (by omega)
  rw [h48 48 (by omega) (Nat.le_refl _)] at hq
  have inner : ∀ n, n < bm_nn X → bw_G E (d + 1) mX12_twiceOnes 4 [some (.ref 50), some (.int (nI (fa_cnt (bm_tw N) (8 * (n + 1))))), some (.int (nI (n + 1))), none] [] w (bw_qi Q) → ∀ m f, f + m = 8 → bw_G E (d + 1) mX12_twiceOnes 14 [some (.ref 50), some (.int (nI (fa_cnt (bm_tw N) (8 * n + f)))), some (.int (nI n)), some (.int (nI f))] [] w (bw_qi Q) := by
    intro n hn hgo m
    induction m with
    | zero =>
      intro f hf
      have e : f = 8 := by omega
      subst e
      refine wfX12_twiceOnes_14 (br_t (by decide) ?_)
      rw [nI_1]; exact hgo
    | succ m ih =>
      intro f hf
      have IH := ih (f + 1) (by omega)
      refine wfX12_twiceOnes_14 (br_f (nI_ge (a := f) (b := 8) (by omega) (by decide)) ⟨fun v w3 => bm_tw N (8 * n + f) = v ∧ w = w3, ys_twin hN hW (by omega) (by omega) ⟨rfl, rfl⟩, ?_⟩)
      rintro _ _ ⟨rfl, rfl⟩
      rw [nI_1, nI_1, Int32.add_zero]
      rw [← Nat.add_assoc] at IH
      refine ⟨fun y => ?_, fun y => ?_⟩
      · rw [fa_cnt_no y] at IH; exact IH
      · rw [fa_cnt_yes y] at IH; exact IH
  have key : ∀ m n, n + m = bm_nn X → bw_G E (d + 1) mX12_twiceOnes 4 [some (.ref 50), some (.int (nI (fa_cnt (bm_tw N) (8 * n)))), some (.int (nI n)), none] [] w (bw_qi Q) := by
    intro m
    induction m with
    | zero =>
      intro n hn
      have e : n = bm_nn X := by omega
      subst e
      refine wfX12_twiceOnes_4 (br_t ?_ hq)
      rw [hX.1]; exact Int32.le_refl _
    | succ m ih =>
      intro n hn
      refine wfX12_twiceOnes_4 (br_f ?_ (inner n (by omega) (ih (n + 1) (by omega)) 8 0 rfl))
      rw [hX.1]; exact nI_ge (by omega) (by omega)
  exact wfX12_twiceOnes (key (bm_nn X) 0 (by omega))
theorem xs_why {a : Int32} (hX : bx_X X w) (hN : bx_N N w) (hW : bm_wfN X N) (hx : bm_wfX X) (hq : ∀ w', bw_fr [35] w w' → Q (nI (bm_wy X N a (bm_nm X))) w') : bw_ri E (d + 4) mX10_messagesWithWhy [.ref 35, .int a] w Q := by
  have hm4 := hx.2.1
  have key : ∀ n j (w' : bw_W), j + n = bm_nm X → bw_fr [35] w w' → bw_G E (d + 4) mX10_messagesWithWhy 4 [some (.ref 35), some (.int a), some (.int (nI (bm_wy X N a j))), some (.int (nI j))] [] w' (bw_qi Q) := by
    intro n
    induction n with
    | zero =>
      intro j w' hj hf
      have e : j = bm_nm X := by omega
      subst e
      refine wfX10_messagesWithWhy_4 (br_t ?_ (hq w' hf))
      rw [hf.i (by decide), hX.2.1]
      exact Int32.le_refl _
    | succ n ih =>
      intro j w' hj hf
      have hX' := hX.fr hf (by decide)
      have hN' := hN.fr hf (by decide)
      refine wfX10_messagesWithWhy_4 (br_f ?_ ⟨fun v w3 => (bm_whyM X N j).isNone = v ∧ bx_cw w' (bm_whyM X N j) = w3, xs_can hX' hN' hW hx (by omega) ⟨rfl, rfl⟩, ?_⟩)
      · rw [hX'.2.1]; exact nI_ge (by omega) (by omega)
      · rintro _ _ ⟨rfl, rfl⟩
        have IH := ih (j + 1) _ (by omega) (hf.tr (bx_cw_fr w' (bm_whyM X N j)))
        rw [bm_wy] at IH
        rw [nI_1, nI_1]
        cases e : bm_whyM X N j with
        | none => rw [e] at IH; exact ⟨fun _ => IH, fun z => by cases z⟩
        | some p =>
          obtain ⟨i, h, y⟩ := p
          rw [e] at IH
          have IH' : bw_G E (d + 4) mX10_messagesWithWhy 4 [some (.ref 35), some (.int a), some (.int (nI (bm_wy X N a j + if nI y = a then 1 else 0))), some (.int (nI (j + 1)))] [] (bx_cw w' (some (i, h, y))) (bw_qi Q) := IH
          refine ⟨fun z => (by cases z), fun _ => ?_⟩
          have g6 : gw_i (bx_cw w' (some (i, h, y))) 35 6 = nI y := by
            unfold bx_cw
            rw [gs_ii, if_neg (by decide), gs_ii, if_pos ⟨rfl, rfl⟩]
          rw [g6]
          refine ⟨fun z => ?_, fun z => ?_⟩
          · rw [if_neg z] at IH'; exact IH'
          · rw [if_pos z] at IH'; exact IH'
  exact wfX10_messagesWithWhy (key (bm_nm X) 0 w (by omega) (bw_fr.rf _ _))
theorem ys_whys {a : Int32} (hX : by_X X w) (hN : by_N N w) (hW : bm_wfN X N) (hx : bm_wfX X) (hq : ∀ w', by_fr [71] [37, 38, 39, 40] w w' → Q (nI (bm_wy X N a (bm_nm X))) w') : bw_ri E (d + 6) mX12_messagesWhy [.ref 50, .int a] w Q := by
  have hm4 := hx.2.1
  have key : ∀ n j (w' : bw_W), j + n = bm_nm X → by_fr [71] [37, 38, 39, 40] w w' → bw_G E (d + 6) mX12_messagesWhy 4 [some (.ref 50), some (.int a), some (.int (nI (bm_wy X N a j))), some (.int (nI j))] [] w' (bw_qi Q) := by
    intro n
    induction n with
    | zero =>
      intro j w' hj hf
      have e : j = bm_nm X := by omega
      subst e
      refine wfX12_messagesWhy_4 (br_t ?_ (hq w' hf))
      rw [hf.i5 (by decide), hX.2.1]
      exact Int32.le_refl _
    | succ n ih =>
      intro j w' hj hf
      have hX' := hX.fr hf (by decide) (by decide) (by decide)
      have hN' := hN.fr hf (by decide)
      refine wfX12_messagesWhy_4 (br_f ?_ ⟨fun v w3 => (bm_whyM X N j).isNone = v ∧ by_fr [71] [37, 38, 39, 40] w w3 ∧ by_tn X N j w3, ys_tells hX' hN' hW hx (by omega) (fun w3 f h => ⟨rfl, hf.tr f, h⟩), ?_⟩)
      · rw [hX'.2.1]; exact nI_ge (by omega) (by omega)
      · rintro _ w3 ⟨rfl, hf3, ht⟩
        have IH := ih (j + 1) w3 (by omega) hf3
        rw [bm_wy] at IH
        rw [nI_1, nI_1, Int32.add_zero]
        unfold by_tn at ht
        cases e : bm_whyM X N j with
        | none => rw [e] at IH; exact ⟨fun _ => IH, fun z => by cases z⟩
        | some p =>
          obtain ⟨i, h, y⟩ := p
          rw [e] at IH ht
          have IH' : bw_G E (d + 6) mX12_messagesWhy 4 [some (.ref 50), some (.int a), some (.int (nI (bm_wy X N a j + if nI y = a then 1 else 0))), some (.int (nI (j + 1)))] [] w3 (bw_qi Q) := IH
          refine ⟨fun z => (by cases z), fun _ => ?_⟩
          rw [ht.2.2]
          refine ⟨fun z => ?_, fun z => ?_⟩
          · rw [if_neg z] at IH'; exact IH'
          · rw [if_pos z] at IH'; exact IH'
  exact wfX12_messagesWhy (key (bm_nm X) 0 w (by omega) (by_fr.rf _ _ _))
theorem ys_longest {Q : bw_W → Prop} (hX : by_X X w) (hN : by_N N w) (hW : bm_wfN X N) (hx : bm_wfX X) (hq : ∀ w', by_fr [71] [37, 38, 39, 40, 48, 49] w w' → gw_i w' 50 48 = bm_o1 (bm_lo X N (bm_nm X)) → gw_i w' 50 49 = bm_o3 (bm_lo X N (bm_nm X)) → Q w') : bw_rv E (d + 6) mX12_laysLongest [.ref 50] w Q := by
  have hm4 := hx.2.1
  have key : ∀ n j (w' : bw_W), j + n = bm_nm X → by_fr [71] [37, 38, 39, 40, 48, 49] w w' → gw_i w' 50 48 = bm_o1 (bm_lo X N j) → gw_i w' 50 49 = bm_o3 (bm_lo X N j) → bw_G E (d + 6) mX12_laysLongest 12 [some (.ref 50), some (.int (nI j))] [] w' (bw_qv Q) := by
    intro n
    induction n with
    | zero =>
      intro j w' hj hf h1 h2
      have e : j = bm_nm X := by omega
      subst e
      refine wfX12_laysLongest_12 (br_t ?_ (hq w' hf h1 h2))
      rw [hf.i5 (by decide), hX.2.1]
      exact Int32.le_refl _
    | succ n ih =>
      intro j w' hj hf h1 h2
      have hX' := hX.fr hf (by decide) (by decide) (by decide)
      have hN' := hN.fr hf (by decide)
      have hlen := bm_lineM_len hW hx (m := j) (by omega)
      refine wfX12_laysLongest_12 (br_f ?_ ⟨fun v w3 => (bm_whyM X N j).isNone = v ∧ by_fr [71] [37, 38, 39, 40] w' w3 ∧ by_tn X N j w3, ys_tells hX' hN' hW hx (by omega) (fun w3 f h => ⟨rfl, f, h⟩), ?_⟩)
      · rw [hX'.2.1]; exact nI_ge (by omega) (by omega)
      · rintro _ w3 ⟨rfl, hf3, ht⟩
        have hf4 : by_fr [71] [37, 38, 39, 40, 48, 49] w w3 := hf.tr (hf3.up (by decide) (by decide))
        have g48 : gw_i w3 50 48 = bm_o1 (bm_lo X N j) := by rw [hf3.i5 (by decide)]; exact h1
        have g49 : gw_i w3 50 49 = bm_o3 (bm_lo X N j) := by rw [hf3.i5 (by decide)]; exact h2
        rw [nI_1, g48, g49]
        unfold by_tn at ht
        cases e : bm_whyM X N j with
        | some p =>
          have IH := ih (j + 1) w3 (by omega) hf4 (by rw [bm_lo, if_neg (by rw [e]; simp)]; exact g48) (by rw [bm_lo, if_neg (by rw [e]; simp)]; exact g49)
          exact ⟨fun _ => IH, fun z => by cases z⟩
        | none =>
          rw [e] at ht
          have g37 : gw_i w3 50 37 = nI (bm_lineM X N j).length := ht.1.1
          rw [g37]
          refine ⟨fun z => (by cases z), fun _ => ?_⟩
          have hnew : bm_lo X N (j + 1) = some (j, (bm_lineM X N j).length) → bw_G E (d + 6) mX12_laysLongest 12 [some (.ref 50), some (.int (nI (j + 1)))] [] (sw_i (sw_i w3 50 48 (nI j)) 50 49 (nI (bm_lineM X N j).length)) (bw_qv Q) := by
            intro e2
            refine ih (j + 1) _ (by omega) ((hf4.s5 (by decide)).s5 (by decide)) ?_ ?_
            · rw [gs_ii, if_neg (by decide), gs_ii, if_pos ⟨rfl, rfl⟩, e2]; rfl
            · rw [gs_ii, if_pos ⟨rfl, rfl⟩, e2]; rfl
          cases e3 : bm_lo X N j with
          | none =>
            refine br_t rfl (hnew ?_)
            rw [bm_lo, if_pos e, e3]
          | some p =>
            obtain ⟨b, l⟩ := p
            have hb := bm_lo_some e3
            have hl := bm_lineM_len hW hx (m := b) (by omega)
            rw [← hb.2.2] at hl
            refine br_f (nI_ne_m1 (by omega)) ?_
            show (nI _ ≤ nI l → _) ∧ (¬ nI _ ≤ nI l → _)
            rw [nI_leI (by omega) (by omega)]
            refine ⟨fun z => ?_, fun z => ?_⟩
            · have e4 : bm_lo X N (j + 1) = bm_lo X N j := by rw [bm_lo, if_pos e, e3]; exact if_pos z
              exact ih (j + 1) w3 (by omega) hf4 (by rw [e4]; exact g48) (by rw [e4]; exact g49)
            · exact hnew (by rw [bm_lo, if_pos e, e3]; exact if_neg z)
  exact wfX12_laysLongest (key (bm_nm X) 0 _ (by omega) (((by_fr.rf _ _ _).s5 (by decide)).s5 (by decide)) (by rw [gs_ii, if_neg (by decide), gs_ii, if_pos ⟨rfl, rfl⟩]; rfl) (by rw [gs_ii, if_pos ⟨rfl, rfl⟩]; rfl))
theorem bm_cs6 {a : Int32} : (a = 0 ∨ a = 1 ∨ a = 2 ∨ a = 3 ∨ a = 4 ∨ a = 5) ∨ ((a.toInt < 0 ∨ 5 < a.toInt) ∧ a ≠ 0 ∧ a ≠ 1 ∧ a ≠ 2 ∧ a ≠ 3 ∧ a ≠ 4 ∧ a ≠ 5) := by
  have e0 : (0 : Int32).toInt = 0 := rfl
  have e1 : (1 : Int32).toInt = 1 := rfl
  have e2 : (2 : Int32).toInt = 2 := rfl
  have e3 : (3 : Int32).toInt = 3 := rfl
  have e4 : (4 : Int32).toInt = 4 := rfl
  have e5 : (5 : Int32).toInt = 5 := rfl
  simp only [Ne, fa_eq, e0, e1, e2, e3, e4, e5]
  omega
theorem qx_most {a0 : Int32} (hX : bx_X X w) (hH : bx_H X w) (hN : bx_N N w) (hW : bm_wfN X N) (hx : bm_wfX X) (hq : ∀ w', bw_fr [35, 36] w w' → Q (br_most X N a0) w') : bw_ri E (d + 6) mX11_most [.ref 0, .int a0] w Q := by
  have q0 := hq w (bw_fr.rf _ _)
  refine wfX11_most ?_
  rw [bx_H0 hH]
  unfold br_most at hq q0
  refine ⟨fun z => ?_, fun z => ?_⟩
  · rw [if_neg z] at hq q0
    refine ⟨fun e => ?_, fun e => ?_, fun e => ?_, fun e => ?_, fun e => ?_, fun e => ?_, fun e => ?_⟩
    · rw [if_pos e] at hq; exact ⟨Q, xs_longest (d := d) hX hN hW hx hq, fun _ _ h => h⟩
    · subst e; rw [if_neg (by decide), if_pos rfl] at hq
      refine ⟨fun v w3 => bm_o1 (bm_lo X N (bm_nm X)) = v ∧ bw_fr [35, 36] w w3, xs_longest (d := d) hX hN hW hx (fun w' f => ⟨rfl, f⟩), ?_⟩
      rintro _ w3 ⟨rfl, hf⟩
      cases e : bm_lo X N (bm_nm X) with
      | none => rw [e] at hq; exact br_nf rfl (hq w3 hf)
      | some p =>
        obtain ⟨b, l⟩ := p
        rw [e] at hq
        have hb := bm_lo_some e
        have hm4 := hx.2.1
        refine br_nt (nI_ne_m1 (by omega)) ⟨Q, xs_bytes (d := d + 1) (hX.fr hf (by decide)) (hN.fr hf (by decide)) hW hx hb.1 (fun q => absurd hb.2.1 q) (fun _ w4 hf4 _ => ?_), fun _ _ h => h⟩
        rw [← hb.2.2]
        exact hq w4 (hf.tr hf4)
    · subst e; rw [if_neg (by decide), if_neg (by decide), if_pos rfl] at q0
      exact ⟨Q, xs_misAll (d := d + 1) hX hN hW hx q0, fun _ _ h => h⟩
    · subst e; rw [if_neg (by decide), if_neg (by decide), if_neg (by decide), if_pos rfl] at q0
      exact ⟨Q, xs_few (d := d + 3) hX hN hW hx z q0, fun _ _ h => h⟩
    · subst e; rw [if_neg (by decide), if_neg (by decide), if_neg (by decide), if_neg (by decide), if_pos rfl] at q0
      exact ⟨Q, xs_filled (d := d + 4) hN hW hx q0, fun _ _ h => h⟩
    · subst e; rw [if_neg (by decide), if_neg (by decide), if_neg (by decide), if_neg (by decide), if_neg (by decide), if_pos rfl] at q0
      exact ⟨Q, xs_twice (d := d + 4) hN hW q0, fun _ _ h => h⟩
    · rcases bm_cs6 (a := a0) with c | ⟨_, c0, c1, c2, c3, c4, c5⟩
      · rcases c with rfl | rfl | rfl | rfl | rfl | rfl <;> exact absurd e (by decide)
      · rw [if_neg c0, if_neg c1, if_neg c2, if_neg c3, if_neg c4, if_neg c5] at q0 hq
        have e6 : (6 : Int32).toInt = 6 := rfl
        have e10 : (10 : Int32).toInt = 10 := rfl
        rw [fa_lt, fa_lt, e6, e10]
        refine ⟨fun y => ?_, fun y => ⟨fun x => ?_, fun x => ?_⟩⟩
        · rw [if_pos (by unfold bm_ix; rw [if_neg (by omega)])] at q0; exact q0
        · rw [if_pos (by unfold bm_ix; rw [if_neg (by omega)])] at q0; exact q0
        · rw [if_neg (by unfold bm_ix; rw [if_pos (by omega)]; simp)] at hq
          exact ⟨Q, xs_why (d := d + 1) hX hN hW hx (fun w' f => hq w' (f.up (by decide))), fun _ _ h => h⟩
  · rw [if_pos z] at q0; exact q0
theorem qm_most {a0 : Int32} (hX : by_X X w) (hN : by_N N w) (hW : bm_wfN X N) (hF : bm_wfF X N) (hx : bm_wfX X) (hq : ∀ w', by_fr [71] [37, 38, 39, 40, 48, 49] w w' → Q (br_most X N a0) w') : bw_ri E (d + 7) mX12_most [.ref 50, .int a0] w Q := by
  have q0 := hq w (by_fr.rf _ _ _)
  refine wfX12_most ?_
  rw [by_H0 hX hx]
  unfold br_most at hq q0
  refine ⟨fun z => ?_, fun z => ?_⟩
  · rw [if_pos (Classical.not_not.mp z)] at q0; exact q0
  · rw [if_neg z] at hq q0
    rw [show (10 : Int32) = nI 10 from rfl, bm_k_iff (n := 11) rfl (by decide)]
    refine ⟨fun y => ?_, fun y => ?_⟩
    · refine ⟨fun w' => by_fr [71] [37, 38, 39, 40, 48, 49] w w' ∧ gw_i w' 50 48 = bm_o1 (bm_lo X N (bm_nm X)) ∧ gw_i w' 50 49 = bm_o3 (bm_lo X N (bm_nm X)), ys_longest (d := d) hX hN hW hx (fun w' f h1 h2 => ⟨f, h1, h2⟩), ?_⟩
      rintro w3 ⟨hf, h1, h2⟩
      have hX' := hX.fr hf (by decide) (by decide) (by decide)
      have hN' := hN.fr hf (by decide)
      have q3 := hq w3 hf
      refine ⟨fun e => ?_, fun e => ?_, fun e => ?_, fun e => ?_, fun e => ?_, fun e => ?_, fun e => ?_⟩
      · rw [if_pos e] at q3; rw [h1]; exact q3
      · subst e; rw [if_neg (by decide), if_pos rfl] at q3; rw [h2]; exact q3
      · subst e; rw [if_neg (by decide), if_neg (by decide), if_pos rfl] at q3
        exact ⟨Q, ys_misAll (d := d + 1) hX' hN' hW hx q3, fun _ _ h => h⟩
      · subst e; rw [if_neg (by decide), if_neg (by decide), if_neg (by decide), if_pos rfl] at q3
        exact ⟨Q, ys_few (d := d + 5) hX' hN' hW hx z q3, fun _ _ h => h⟩
      · subst e; rw [if_neg (by decide), if_neg (by decide), if_neg (by decide), if_neg (by decide), if_pos rfl] at q3
        exact ⟨Q, ys_filled (d := d + 5) hN' hW hx q3, fun _ _ h => h⟩
      · subst e; rw [if_neg (by decide), if_neg (by decide), if_neg (by decide), if_neg (by decide), if_neg (by decide), if_pos rfl] at q3
        exact ⟨Q, ys_twice (d := d + 5) hX' hx hN' hW hF q3, fun _ _ h => h⟩
      · rcases bm_cs6 (a := a0) with c | ⟨_, c0, c1, c2, c3, c4, c5⟩
        · rcases c with rfl | rfl | rfl | rfl | rfl | rfl <;> exact absurd e (by decide)
        · rw [if_neg c0, if_neg c1, if_neg c2, if_neg c3, if_neg c4, if_neg c5, if_neg y] at hq
          exact ⟨Q, ys_whys (d := d) hX' hN' hW hx (fun w' f => hq w' (hf.tr (f.up (by decide) (by decide)))), fun _ _ h => h⟩
    · have y' := bm_ix_not (n := 10) (by decide) (Classical.not_not.mp y)
      rcases bm_cs6 (a := a0) with c | ⟨_, c0, c1, c2, c3, c4, c5⟩
      · rcases c with rfl | rfl | rfl | rfl | rfl | rfl <;> exact absurd y' (by decide)
      · rw [if_neg c0, if_neg c1, if_neg c2, if_neg c3, if_neg c4, if_neg c5, if_pos (Classical.not_not.mp y)] at q0
        exact q0
end MOST2
