/-! an act of the reference -/
theorem by_Sf_congr {N : bm_N} {G : List bm_A} {f g : Nat → Int64} (h : ∀ i, i < 236 → g i = f i) (hs : by_Sf N G f) : by_Sf N G g := by
  have h6 := bm_l6_le G
  refine ⟨fun i hi => by rw [h i (by omega)]; exact hs.1 i hi, by rw [h 55 (by omega)]; exact hs.2.1, fun i hi => ?_⟩
  rw [h _ (by omega), h _ (by omega), h _ (by omega)]; exact hs.2.2 i hi
section MACT
variable {E : bw_E} {d : Nat} {w : bw_W} {X : bm_X} {N : bm_N}
theorem yv_whyFill {a b c : Int32} {u : List Nat} (hX : by_X X w) (hN : by_N N w) (hW : bm_wfN X N) (hx : bm_wfX X) : vX12_whyFill w a b c = br_code (br_ref X N 0 a b c u) := by
  have h6 := hx.1
  unfold vX12_whyFill br_ref br_res
  have e1 := by_H0 hX hx
  have e2 : ((¬ (a < 0)) ∧ (¬ (2 < a))) ↔ bm_ix a 3 ≠ none := bm_k_iff (k := 2) rfl (by decide)
  have e3 : ((¬ (b < 0)) ∧ (¬ (((gw_i w 50 34) - 1) < b))) ↔ bm_ix b (bm_nn X) ≠ none := by rw [hX.1]; exact bm_m_iff (by omega)
  have e4 : ((¬ (c < 0)) ∧ (¬ (99 < c))) ↔ bm_ix c 100 ≠ none := bm_k_iff (k := 99) rfl (by decide)
  by_cases hn : bm_nn X = 0
  · rw [if_pos (fun z => z.1 (e1.mpr hn)), if_pos hn]; rfl
  · rw [if_neg hn, if_pos rfl]
    cases f0 : bm_ix a 3 with
    | none => rw [if_pos (fun z => (e2.mp z.2) f0)]; rfl
    | some h =>
      rw [if_neg (fun z => z ⟨fun y => hn (e1.mp y), e2.mpr (by rw [f0]; simp)⟩)]
      cases f1 : bm_ix b (bm_nn X) with
      | none => rw [if_neg (fun z => e3.mp z f1)]; rfl
      | some n =>
        rw [if_pos (e3.mpr (by rw [f1]; simp))]
        cases f2 : bm_ix c 100 with
        | none => rw [if_neg (fun z => e4.mp z f2)]; rfl
        | some k =>
          rw [if_pos (e4.mpr (by rw [f2]; simp))]
          obtain ⟨g0, rfl⟩ := bm_ix_some f0
          obtain ⟨g1, rfl⟩ := bm_ix_some f1
          obtain ⟨g2, rfl⟩ := bm_ix_some f2
          show _ = br_code (if decide (bm_hol N h = some (n, k)) = true then .inl 2 else .inr (0, h, n, k, []))
          cases e : bm_hol N h with
          | none =>
            rw [yv_none hN g0 e, if_pos (fun z => nI_ne_m1 (by omega) z.symm)]; rfl
          | some q =>
            obtain ⟨n', c'⟩ := q
            have hb := hW.2 h n' c' g0 e
            have i1 := nI_eq (a := n') (b := n) (by omega) (by omega)
            have i2 := nI_eq (a := c') (b := k) (by omega) (by omega)
            rw [yv_noun hN g0 e, yv_count hN g0 e]
            by_cases c1 : n' = n
            · by_cases c2 : c' = k
              · rw [if_neg (fun z => z (i1.mpr c1)), if_neg (fun z => z (i2.mpr c2)), if_pos (by rw [c1, c2]; simp)]; rfl
              · rw [if_neg (fun z => z (i1.mpr c1)), if_pos (fun z => c2 (i2.mp z)), if_neg (by simp; intro _; exact c2)]; rfl
            · rw [if_pos (fun z => c1 (i1.mp z)), if_neg (by simp; intro z; exact absurd z c1)]; rfl
theorem ys_whyNot {Q : Int32 → bw_W → Prop} {s : Nat} {a b c : Int32} {v : Int64} {u : List Nat} (hX : by_X X w) (hN : by_N N w) (hW : bm_wfN X N) (hx : bm_wfX X) (hs : s ≤ 4) (hu : bm_ok u) (hv : s = 3 → v = by_w u) (hq : Q (br_code (br_ref X N s a b c u)) w) : bw_ri E (d + 3) mX12_whyNot [.ref 50, .int (nI s), .int a, .int b, .int c, .long v] w Q := by
  have h6 := hx.1
  have e1 := by_H0 hX hx
  have e2 : ((¬ (a < 0)) ∧ (¬ (2 < a))) ↔ bm_ix a 3 ≠ none := bm_k_iff (k := 2) rfl (by decide)
  have e3 : ((¬ (b < 0)) ∧ (¬ (((gw_i w 50 34) - 1) < b))) ↔ bm_ix b (bm_nn X) ≠ none := by rw [hX.1]; exact bm_m_iff (by omega)
  have e3a : ((¬ (a < 0)) ∧ (¬ (((gw_i w 50 34) - 1) < a))) ↔ bm_ix a (bm_nn X) ≠ none := by rw [hX.1]; exact bm_m_iff (by omega)
  have e4 : ((¬ (c < 0)) ∧ (¬ (99 < c))) ↔ bm_ix c 100 ≠ none := bm_k_iff (k := 99) rfl (by decide)
  have e5 : ((¬ (a < 0)) ∧ (¬ (1 < a))) ↔ bm_ix a 2 ≠ none := bm_k_iff (k := 1) rfl (by decide)
  have in3 : ∀ {a : Int32}, bm_ix a 3 ≠ none → vp_in (1 + (2 * a)) 236 ∧ vp_in ((1 + (2 * a)) + 1) 236 := by
    intro a z
    cases f0 : bm_ix a 3 with
    | none => exact absurd f0 z
    | some h => obtain ⟨g0, rfl⟩ := bm_ix_some f0; exact ⟨yv_in g0, yv_in2 g0⟩
  refine wfX12_whyNot ?_
  rcases bm_s5 hs with rfl | rfl | rfl | rfl | rfl
  · refine ⟨fun _ => ⟨fun z _ _ => (in3 (e2.mp z.2)).1, fun z _ _ _ => (in3 (e2.mp z.2)).2, ?_⟩, fun z => absurd z (by decide), fun z => absurd z (by decide), fun z => absurd z (by decide), fun z => absurd z (by decide)⟩
    rw [yv_whyFill (u := u) hX hN hW hx]; exact hq
  · refine ⟨fun z => absurd z (by decide), fun _ => ?_, fun z => absurd z (by decide), fun z => absurd z (by decide), fun z => absurd z (by decide)⟩
    unfold br_ref br_res at hq
    rw [e1, e2]
    by_cases hn : bm_nn X = 0
    · rw [if_pos hn] at hq; exact br_f (fun z => z.1 hn) hq
    · rw [if_neg hn, if_neg (by decide), if_pos rfl] at hq
      cases f0 : bm_ix a 3 with
      | none => rw [f0] at hq; exact br_f (fun z => z.2 rfl) hq
      | some h =>
        rw [f0] at hq
        obtain ⟨g0, rfl⟩ := bm_ix_some f0
        have hq' : Q (br_code (if decide (bm_hol N h = none) = true then .inl 2 else .inr (1, h, 0, 0, []))) w := hq
        refine br_t ⟨hn, by simp⟩ ⟨yv_in g0, ?_⟩
        cases e : bm_hol N h with
        | none => rw [e] at hq'; exact br_nf (yv_none hN g0 e) hq'
        | some q =>
          obtain ⟨n', c'⟩ := q
          have hb := hW.2 h n' c' g0 e
          rw [e] at hq'
          rw [yv_noun hN g0 e]
          exact br_nt (nI_ne_m1 (by omega)) hq'
  · refine ⟨fun z => absurd z (by decide), fun z => absurd z (by decide), fun _ => ?_, fun z => absurd z (by decide), fun z => absurd z (by decide)⟩
    unfold br_ref br_res at hq
    rw [e1, e5]
    by_cases hn : bm_nn X = 0
    · rw [if_pos hn] at hq; exact br_f (fun z => z hn) hq
    · rw [if_neg hn, if_neg (by decide), if_neg (by decide), if_pos rfl] at hq
      refine br_t hn ?_
      cases f0 : bm_ix a 2 with
      | none => rw [f0] at hq; exact br_f (fun z => z rfl) hq
      | some h =>
        rw [f0] at hq
        obtain ⟨g0, rfl⟩ := bm_ix_some f0
        have hq' : Q (br_code (if decide (bm_b2 (bm_str N) = h) = true then .inl 2 else .inr (2, h, 0, 0, []))) w := hq
        have hb : bm_b2 (bm_str N) < 2 := by unfold bm_b2; split <;> omega
        refine br_t (by simp) ?_
        rw [hN.2.2, nI_l (by omega), bm_leq (by omega) (by omega)]
        by_cases e : bm_b2 (bm_str N) = h
        · rw [decide_eq_true e] at hq'; exact br_nf e hq'
        · rw [decide_eq_false e] at hq'; exact br_nt e hq'
  · refine ⟨fun z => absurd z (by decide), fun z => absurd z (by decide), fun z => absurd z (by decide), fun _ => ?_, fun z => absurd z (by decide)⟩
    unfold br_ref br_res at hq
    rw [hv rfl, e3a, bm_sm_iff, by_w0 hu]
    by_cases hn : bm_nn X = 0
    · rw [if_pos hn] at hq
      refine br_f (fun z => ?_) hq
      unfold bm_ix at z
      rw [if_neg (by omega)] at z; exact z rfl
    · rw [if_neg hn, if_neg (by decide), if_neg (by decide), if_neg (by decide)] at hq
      cases f0 : bm_ix a (bm_nn X) with
      | none => rw [f0] at hq; exact br_f (fun z => z rfl) hq
      | some n =>
        refine br_t (by simp) ?_
        cases f1 : bm_ix b 4 with
        | none => rw [f0, f1] at hq; exact br_nt (fun z => z.1 rfl) hq
        | some k =>
          cases f2 : bm_ix c 2 with
          | none => rw [f0, f1, f2] at hq; exact br_nt (fun z => z.2 rfl) hq
          | some m =>
            rw [f0, f1, f2] at hq
            obtain ⟨g0, rfl⟩ := bm_ix_some f0
            obtain ⟨g1, rfl⟩ := bm_ix_some f1
            obtain ⟨g2, rfl⟩ := bm_ix_some f2
            refine br_nf (by simp) ⟨fun z => ⟨yv_tin (by omega) g1 g2, ?_⟩, fun z => ?_⟩
            · rw [yv_told hN (by omega) g1 g2, by_w_eq (hW.1 _ (by omega)) hu]
              have hq1 : Q (br_code (match (if 3 = 3 ∧ u = [] then (.inl 1 : Nat ⊕ bm_P) else .inr (3, n, k, m, if 3 = 3 then u else [])) with | .inl e => .inl e | .inr p => if bm_so N p then .inl 2 else .inr p)) w := hq
              rw [if_neg (fun y => z y.2)] at hq1
              have hq' : Q (br_code (if decide (bm_frm N (8 * n + 2 * k + m) = u) = true then .inl 2 else .inr (3, n, k, m, u))) w := hq1
              by_cases e : bm_frm N (8 * n + 2 * k + m) = u
              · rw [decide_eq_true e] at hq'; exact br_nf e hq'
              · rw [decide_eq_false e] at hq'; exact br_nt e hq'
            · have hq1 : Q (br_code (match (if 3 = 3 ∧ u = [] then (.inl 1 : Nat ⊕ bm_P) else .inr (3, n, k, m, if 3 = 3 then u else [])) with | .inl e => .inl e | .inr p => if bm_so N p then .inl 2 else .inr p)) w := hq
              rw [if_pos ⟨rfl, z⟩] at hq1
              exact hq1
  · refine ⟨fun z => absurd z (by decide), fun z => absurd z (by decide), fun z => absurd z (by decide), fun z => absurd z (by decide), fun _ => ?_⟩
    unfold br_ref br_res at hq
    rw [e3a, bm_sm_iff]
    by_cases hn : bm_nn X = 0
    · rw [if_pos hn] at hq
      refine br_f (fun z => ?_) hq
      unfold bm_ix at z
      rw [if_neg (by omega)] at z; exact z rfl
    · rw [if_neg hn, if_neg (by decide), if_neg (by decide), if_neg (by decide)] at hq
      cases f0 : bm_ix a (bm_nn X) with
      | none => rw [f0] at hq; exact br_f (fun z => z rfl) hq
      | some n =>
        refine br_t (by simp) ?_
        cases f1 : bm_ix b 4 with
        | none => rw [f0, f1] at hq; exact br_f (fun z => z.1 rfl) hq
        | some k =>
          cases f2 : bm_ix c 2 with
          | none => rw [f0, f1, f2] at hq; exact br_f (fun z => z.2 rfl) hq
          | some m =>
            rw [f0, f1, f2] at hq
            obtain ⟨g0, rfl⟩ := bm_ix_some f0
            obtain ⟨g1, rfl⟩ := bm_ix_some f1
            obtain ⟨g2, rfl⟩ := bm_ix_some f2
            refine br_t (by simp) ⟨yv_tin (by omega) g1 g2, ?_⟩
            rw [yv_told hN (by omega) g1 g2, by_w0 (hW.1 _ (by omega))]
            have hq' : Q (br_code (if decide (bm_frm N (8 * n + 2 * k + m) = []) = true then .inl 2 else .inr (4, n, k, m, []))) w := hq
            by_cases e : bm_frm N (8 * n + 2 * k + m) = []
            · rw [decide_eq_true e] at hq'; exact br_nf e hq'
            · rw [decide_eq_false e] at hq'; exact br_nt e hq'
/-- what an act answers -/
def br_ans (X : bm_X) (N : bm_N) (p : bm_P) : Int32 := if p.1 = 0 then nI (bm_num p.2.2.2.1) else if p.1 = 1 then (match bm_hol N p.2.1 with | none => -1 | some (n, _) => nI n) else if p.1 = 2 then nI (bm_many X (bm_do N p) (bm_nm X)) else nI (bm_wc (bm_frm (bm_do N p)) (8 * p.2.1) 8)
theorem ys_do {Q : Int32 → bw_W → Prop} {p : bm_P} {b c : Int32} {v : Int64} (hX : by_X X w) (hN : by_N N w) (hW : bm_wfn X N) (hx : bm_wfX X) (hr : bm_rdy X p) (hbc : p.1 ≠ 1 → p.1 ≠ 2 → b = nI p.2.2.1 ∧ c = nI p.2.2.2.1) (hv : p.1 = 3 → v = by_w p.2.2.2.2) (hq : ∀ w', by_fr [63, 71] [37, 38, 39, 40] w w' → by_N (bm_do N p) w' → (∀ i, 55 ≤ i → gw_l w' 63 i = gw_l w 63 i) → Q (br_ans X N p) w') : bw_ri E (d + 8) mX12_doNow [.ref 50, .int (nI p.1), .int (nI p.2.1), .int b, .int c, .long v] w Q := by
  have h6 := hx.1
  have hWd := bm_wfn_do hx hW hr
  obtain ⟨s, a, pb, pc, u⟩ := p
  obtain ⟨hn0, h4, h0, h1, h2, h3, hu⟩ := id hr
  dsimp only at hbc hv h4 h0 h1 h2 h3 hu ⊢
  have hN' := by_N_iff.mp hN
  refine wfX12_doNow ?_
  rcases bm_s5 h4 with rfl | rfl | rfl | rfl | rfl
  · obtain ⟨g0, g1, g2⟩ := h0 rfl
    obtain ⟨rfl, rfl⟩ := hbc (by decide) (by decide)
    refine ⟨fun _ => ⟨yv_in g0, yv_in2 g0, yv_in2 g0, ?_⟩, fun z => absurd z (by decide), fun z => absurd z (by decide), fun z => absurd z (by decide)⟩
    unfold vX12_fillsNow
    rw [show (1 : Int32) + 2 * nI a + 1 = nI (2 + 2 * a) by rw [nl_2, nl_1, pk_mul, nI_add, nI_add]; congr 1; omega, show (1 : Int32) + 2 * nI a = nI (1 + 2 * a) by rw [nl_2, nl_1, pk_mul, nI_add], nI_clamp (by omega), nI_clamp (by omega), nI_l (by omega), nI_l (by omega)]
    have hNn : by_N (bm_do N (0, a, pb, pc, u)) (sw_l (sw_l w 63 (1 + 2 * a) (lN pb)) 63 (2 + 2 * a) (lN pc)) := by
      refine by_N_iff.mpr (fun i hi => ?_)
      show _ = cy_N (bm_frm N, bm_set (bm_hol N) a (some (pb, pc)), bm_str N) i
      rw [gs_ll, gs_ll, hN' i hi]
      unfold cy_N bm_frm bm_hol bm_str
      dsimp only
      by_cases c0 : i = 0
      · rw [if_neg (by omega), if_neg (by omega), if_pos c0, if_pos c0]
      · rw [if_neg c0, if_neg c0]
        by_cases c7 : i < 7
        · rw [if_pos c7, if_pos c7]
          by_cases ca : (i - 1) / 2 = a
          · rw [ca, bm_set_eq]
            by_cases c2 : i % 2 = 1
            · rw [if_neg (by omega), if_pos (by omega), if_pos c2]; rfl
            · rw [if_pos (by omega), if_neg c2]; rfl
          · rw [bm_set_ne ca, if_neg (by omega), if_neg (by omega)]
        · rw [if_neg (by omega), if_neg (by omega), if_neg c7, if_neg c7]
    rw [yv_num hNn hWd.1 g0 (n := pb) (c := pc) (by show bm_set (bm_hol N) a (some (pb, pc)) a = _; rw [bm_set_eq])]
    exact hq _ (((by_fr.rf _ _ _).sl (by decide) (by decide)).sl (by decide) (by decide)) hNn (fun i hi => by rw [gs_ll, if_neg (by omega), gs_ll, if_neg (by omega)])
  · have g0 := h1 rfl
    refine ⟨fun z => absurd z (by decide), fun _ => ⟨yv_in g0, yv_in g0, yv_in2 g0, ?_⟩, fun z => absurd z (by decide), fun z => absurd z (by decide)⟩
    rw [yv_cell hN g0]
    rw [show (1 : Int32) + 2 * nI a + 1 = nI (2 + 2 * a) by rw [nl_2, nl_1, pk_mul, nI_add, nI_add]; congr 1; omega, show (1 : Int32) + 2 * nI a = nI (1 + 2 * a) by rw [nl_2, nl_1, pk_mul, nI_add], nI_clamp (by omega), nI_clamp (by omega)]
    have hNn : by_N (bm_do N (1, a, pb, pc, u)) (sw_l (sw_l w 63 (1 + 2 * a) (-1)) 63 (2 + 2 * a) 0) := by
      refine by_N_iff.mpr (fun i hi => ?_)
      show _ = cy_N (bm_frm N, bm_set (bm_hol N) a none, bm_str N) i
      rw [gs_ll, gs_ll, hN' i hi]
      unfold cy_N bm_frm bm_hol bm_str
      dsimp only
      by_cases c0 : i = 0
      · rw [if_neg (by omega), if_neg (by omega), if_pos c0, if_pos c0]
      · rw [if_neg c0, if_neg c0]
        by_cases c7 : i < 7
        · rw [if_pos c7, if_pos c7]
          by_cases ca : (i - 1) / 2 = a
          · rw [ca, bm_set_eq]
            by_cases c2 : i % 2 = 1
            · rw [if_neg (by omega), if_pos (by omega), if_pos c2]; rfl
            · rw [if_pos (by omega), if_neg c2]; rfl
          · rw [bm_set_ne ca, if_neg (by omega), if_neg (by omega)]
        · rw [if_neg (by omega), if_neg (by omega), if_neg c7, if_neg c7]
    exact hq _ (((by_fr.rf _ _ _).sl (by decide) (by decide)).sl (by decide) (by decide)) hNn (fun i hi => by rw [gs_ll, if_neg (by omega), gs_ll, if_neg (by omega)])
  · have g0 := h2 rfl
    refine ⟨fun z => absurd z (by decide), fun z => absurd z (by decide), fun _ => ?_, fun z => absurd z (by decide)⟩
    rw [nI_l (by omega), show Int32.toNatClampNeg 0 = 0 from rfl]
    have f1 : by_fr [63, 71] [37, 38, 39, 40] w (sw_l w 63 0 (lN a)) := (by_fr.rf _ _ _).sl (by decide) (by decide)
    have hNn : by_N (bm_do N (2, a, pb, pc, u)) (sw_l w 63 0 (lN a)) := by
      refine by_N_iff.mpr (fun i hi => ?_)
      show _ = cy_N (bm_frm N, bm_hol N, decide (a ≠ 0)) i
      rw [gs_ll, hN' i hi]
      unfold cy_N bm_frm bm_hol bm_str
      dsimp only
      by_cases c0 : i = 0
      · rw [if_pos ⟨rfl, c0⟩, if_pos c0]
        rcases (by omega : a = 0 ∨ a = 1) with rfl | rfl <;> rfl
      · rw [if_neg (by omega), if_neg c0, if_neg c0]
    refine ⟨Q, ys_many (d := d) (hX.fr f1 (by decide) (by decide) (by decide)) hNn hWd.1 hx (fun w' f' => ?_), fun _ _ h => h⟩
    refine hq w' (f1.tr (f'.up (by decide) (by decide))) (hNn.fr f' (by decide)) (fun i hi => ?_)
    rw [f'.l (by decide) (by decide), gs_ll, if_neg (by omega)]
  · obtain ⟨g0, g1, g2⟩ := h3 (Or.inl rfl)
    obtain ⟨rfl, rfl⟩ := hbc (by decide) (by decide)
    have hcl : ((7 + (8 * nI a)) + ((2 * nI pb) + nI pc)) = nI (7 + (8 * a + 2 * pb + pc)) := by
      rw [nl_7, nl_8, nl_2, pk_mul, pk_mul, nI_add, nI_add, nI_add]; congr 1; omega
    refine ⟨fun z => absurd z (by decide), fun z => absurd z (by decide), fun z => absurd z (by decide), fun _ => br_nf rfl ⟨yv_tin (by omega) g1 g2, ?_⟩⟩
    rw [hcl, nI_clamp (by omega), hv rfl]
    have f1 : by_fr [63, 71] [37, 38, 39, 40] w (sw_l w 63 (7 + (8 * a + 2 * pb + pc)) (by_w u)) := (by_fr.rf _ _ _).sl (by decide) (by decide)
    have hNn : by_N (bm_do N (3, a, pb, pc, u)) (sw_l w 63 (7 + (8 * a + 2 * pb + pc)) (by_w u)) := by
      refine by_N_iff.mpr (fun i hi => ?_)
      show _ = cy_N (bm_set (bm_frm N) (8 * a + 2 * pb + pc) u, bm_hol N, bm_str N) i
      rw [gs_ll, hN' i hi]
      unfold cy_N bm_frm bm_hol bm_str
      dsimp only
      by_cases c0 : i = 0
      · rw [if_neg (by omega), if_pos c0, if_pos c0]
      · rw [if_neg c0, if_neg c0]
        by_cases c7 : i < 7
        · rw [if_neg (by omega), if_pos c7, if_pos c7]
        · rw [if_neg c7, if_neg c7]
          by_cases cc : i - 7 = 8 * a + 2 * pb + pc
          · rw [if_pos ⟨rfl, by omega⟩, cc, bm_set_eq]
          · rw [if_neg (by omega), bm_set_ne cc]
    refine ⟨Q, ys_ft (d := d + 7) hNn hWd.1 (by omega) ?_, fun _ _ h => h⟩
    refine hq _ f1 hNn (fun i hi => ?_)
    rw [gs_ll, if_neg (by omega)]
  · obtain ⟨g0, g1, g2⟩ := h3 (Or.inr rfl)
    obtain ⟨rfl, rfl⟩ := hbc (by decide) (by decide)
    have hcl : ((7 + (8 * nI a)) + ((2 * nI pb) + nI pc)) = nI (7 + (8 * a + 2 * pb + pc)) := by
      rw [nl_7, nl_8, nl_2, pk_mul, pk_mul, nI_add, nI_add, nI_add]; congr 1; omega
    refine ⟨fun z => absurd z (by decide), fun z => absurd z (by decide), fun z => absurd z (by decide), fun _ => br_nt (by decide) ⟨yv_tin (by omega) g1 g2, ?_⟩⟩
    rw [hcl, nI_clamp (by omega)]
    have f1 : by_fr [63, 71] [37, 38, 39, 40] w (sw_l w 63 (7 + (8 * a + 2 * pb + pc)) 0) := (by_fr.rf _ _ _).sl (by decide) (by decide)
    have hNn : by_N (bm_do N (4, a, pb, pc, u)) (sw_l w 63 (7 + (8 * a + 2 * pb + pc)) 0) := by
      refine by_N_iff.mpr (fun i hi => ?_)
      show _ = cy_N (bm_set (bm_frm N) (8 * a + 2 * pb + pc) [], bm_hol N, bm_str N) i
      rw [gs_ll, hN' i hi]
      unfold cy_N bm_frm bm_hol bm_str
      dsimp only
      by_cases c0 : i = 0
      · rw [if_neg (by omega), if_pos c0, if_pos c0]
      · rw [if_neg c0, if_neg c0]
        by_cases c7 : i < 7
        · rw [if_neg (by omega), if_pos c7, if_pos c7]
        · rw [if_neg c7, if_neg c7]
          by_cases cc : i - 7 = 8 * a + 2 * pb + pc
          · rw [if_pos ⟨rfl, by omega⟩, cc, bm_set_eq]; rfl
          · rw [if_neg (by omega), bm_set_ne cc]
    refine ⟨Q, ys_ft (d := d + 7) hNn hWd.1 (by omega) ?_, fun _ _ h => h⟩
    refine hq _ f1 hNn (fun i hi => ?_)
    rw [gs_ll, if_neg (by omega)]
end MACT
