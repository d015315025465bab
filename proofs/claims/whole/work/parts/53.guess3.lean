/-! guesses of the reference -/
def bgc (A : Int32) (h i : Nat) : Prop := ∀ k, h ≤ k → k < 3 → bg_a A k = true → i ≠ 1 + 2 * k ∧ i ≠ 2 + 2 * k
/-- what stands besides holes from h on that are asked -/
def bgf (A : Int32) (h : Nat) (w w' : bw_W) : Prop := ∀ i, bgc A h i → gw_l w' 63 i = gw_l w 63 i
def bgy (A : Int32) (N : bm_N) (h : Nat) (D : Nat → Nat) (w : bw_W) : Prop := ∀ i, i < 55 → bgc A h i → gw_l w 63 i = cy_N (bg_N A N D) i
def bgk (P : Nat → Bool) (A : Int32) (nn : Nat) (N : bm_N) (g : Nat) (w : bw_W) : Prop := gw_i w 50 47 = nI (fa_cnt P g) ∧ (fa_cnt P g ≠ 0 → ∃ f, bg_fst P g f ∧ ∀ k, k < 3 → bg_a A k = true → gw_i w 74 k = nI (bg_dg A nn f k / 2) ∧ gw_i w 75 k = nI (1 + bg_dg A nn f k % 2))
abbrev by_gl : List Nat := [63, 71, 74, 75]
abbrev by_gf : List Nat := [37, 38, 39, 40, 47]
def bg_ct (E : bw_E) (d : Nat) (X : bm_X) (N : bm_N) (A : Int32) (m : Nat) (t : List Nat) (h b sz : Nat) (D : Nat → Nat) : Prop := ∀ (Q : bw_W → Prop) (w : bw_W), by_X X w → by_T t w → bgy A N h D w → bgk (bg_P X N A m t) A (bm_nn X) N b w → (∀ w', by_fr by_gl by_gf w w' → bgf A h w w' → bgk (bg_P X N A m t) A (bm_nn X) N (b + sz) w' → Q w') → bw_rv E d mX12_guesses [.ref 50, .int (nI m), .int A, .int (nI h)] w Q
theorem bgf.rf (A : Int32) (h : Nat) (w : bw_W) : bgf A h w w := fun _ _ => rfl
theorem bgf.tr {A : Int32} {h : Nat} {w w1 w2 : bw_W} (a : bgf A h w w1) (b : bgf A h w1 w2) : bgf A h w w2 := fun i hi => (b i hi).trans (a i hi)
theorem bgc.up {A : Int32} {h i : Nat} (c : bgc A h i) : bgc A (h + 1) i := fun k hk => c k (by omega)
theorem bgf.dn {A : Int32} {h : Nat} {w w1 : bw_W} (a : bgf A (h + 1) w w1) : bgf A h w w1 := fun i hi => a i hi.up
theorem bgy.f {A : Int32} {N : bm_N} {h : Nat} {D : Nat → Nat} {w w1 : bw_W} (a : bgy A N h D w) (b : bgf A h w w1) : bgy A N h D w1 := fun i hi hc => by rw [b i hc]; exact a i hi hc
theorem cy_bgN {A : Int32} {N : bm_N} {D D' : Nat → Nat} {i : Nat} (hi : i < 55) (h : 1 ≤ i → i < 7 → bg_a A ((i - 1) / 2) = true → D ((i - 1) / 2) = D' ((i - 1) / 2)) : cy_N (bg_N A N D) i = cy_N (bg_N A N D') i := by
  unfold cy_N
  by_cases c0 : i = 0
  · rw [if_pos c0, if_pos c0]; rfl
  · rw [if_neg c0, if_neg c0]
    by_cases c7 : i < 7
    · rw [if_pos c7, if_pos c7]
      have e : bm_hol (bg_N A N D) ((i - 1) / 2) = bm_hol (bg_N A N D') ((i - 1) / 2) := by
        show (if bg_a A ((i - 1) / 2) = true then bg_fl (D ((i - 1) / 2)) else bm_hol N ((i - 1) / 2)) = (if bg_a A ((i - 1) / 2) = true then bg_fl (D' ((i - 1) / 2)) else bm_hol N ((i - 1) / 2))
        by_cases ha : bg_a A ((i - 1) / 2) = true
        · rw [if_pos ha, if_pos ha, h (by omega) c7 ha]
        · rw [if_neg ha, if_neg ha]
      rw [e]
    · rw [if_neg c7, if_neg c7]; rfl
section GUESS3
variable {E : bw_E} {d : Nat} {w : bw_W} {X : bm_X} {N : bm_N} {A : Int32} {m : Nat} {t : List Nat}
theorem bgy_set {h ch : Nat} {D : Nat → Nat} (hh : h < 3) (ha : bg_a A h = true) (hy : bgy A N h D w) : bgy A N (h + 1) (bm_set D h ch) (sw_l (sw_l w 63 (1 + 2 * h) (lN (ch / 2))) 63 (2 + 2 * h) (lN (1 + ch % 2))) := by
  intro i hi hc
  rw [gs_ll, gs_ll]
  have hol : bm_hol (bg_N A N (bm_set D h ch)) h = some (ch / 2, 1 + ch % 2) := by
    show (if bg_a A h = true then bg_fl (bm_set D h ch h) else bm_hol N h) = _
    rw [if_pos ha, bm_set_eq]; rfl
  by_cases c1 : i = 2 + 2 * h
  · rw [if_pos ⟨rfl, c1⟩]
    unfold cy_N
    rw [if_neg (by omega), if_pos (by omega), if_neg (by omega), show (i - 1) / 2 = h by omega, hol]; rfl
  · rw [if_neg (fun q => c1 q.2)]
    by_cases c2 : i = 1 + 2 * h
    · rw [if_pos ⟨rfl, c2⟩]
      unfold cy_N
      rw [if_neg (by omega), if_pos (by omega), if_pos (by omega), show (i - 1) / 2 = h by omega, hol]; rfl
    · rw [if_neg (fun q => c2 q.2), hy i hi (fun k hk h3 hka => ?_)]
      · refine cy_bgN hi (fun g1 g7 _ => ?_)
        rw [bm_set_ne (by omega)]
      · by_cases e : k = h
        · rw [e]; exact ⟨c2, c1⟩
        · exact hc k (by omega) h3 hka
theorem bgy_skip {h : Nat} {D : Nat → Nat} (ha : bg_a A h = false) (hy : bgy A N h D w) : bgy A N (h + 1) D w := by
  intro i hi hc
  refine hy i hi (fun k hk h3 hka => ?_)
  by_cases e : k = h
  · rw [e, ha] at hka; cases hka
  · exact hc k (by omega) h3 hka
theorem bgk.fr {P : Nat → Bool} {nn g : Nat} {w' : bw_W} {S F : List Nat} (h : bgk P A nn N g w) (hf : by_fr S F w w') (h1 : 47 ∉ F) (h2 : 74 ∉ S) (h3 : 75 ∉ S) : bgk P A nn N g w' := by
  refine ⟨by rw [hf.i5 h1]; exact h.1, fun z => ?_⟩
  obtain ⟨f, a, b⟩ := h.2 z
  exact ⟨f, a, fun k hk ha => by rw [hf.i h2 (by decide), hf.i h3 (by decide)]; exact b k hk ha⟩
/-- a filling -/
theorem ys_g3 {b : Nat} {D : Nat → Nat} (hx : bm_wfX X) (hm : m < bm_nm X) (ht : bm_wfT t) (hW : bm_wfn X N) (h0 : 0 < bm_nn X) (hb : b < bg_F A (bm_nn X)) (hD : ∀ k, k < 3 → bg_a A k = true → D k = bg_dg A (bm_nn X) b k) : bg_ct E (d + 10) X N A m t 3 b 1 D := by
  intro Q w hX hT hy hk hq
  have h6 := hx.1
  have hF := bg_F_le (A := A) h0 h6
  have hcl := fa_cnt_le (bg_P X N A m t) b
  have hN : by_N (bg_lf A (bm_nn X) N b) w := by_N_iff.mpr (fun i hi => by
    rw [hy i hi (fun k h1 h2 => by omega)]
    exact cy_bgN hi (fun g1 g7 ha => hD _ (by omega) ha))
  have hWb := bg_lf_wf (A := A) hW h0 h6 hb
  refine wfX12_guesses (br_nf rfl ⟨fun v w6 => v = (bm_whyM X (bg_lf A (bm_nn X) N b) m).isNone ∧ by_fr [71] [37, 38, 39, 40] w w6 ∧ by_tn X (bg_lf A (bm_nn X) N b) m w6, ys_tells (d := d + 4) hX hN hWb.1 hx hm (fun w' f g => ⟨rfl, f, g⟩), ?_⟩)
  rintro _ w6 ⟨rfl, f6, t6⟩
  have f6' : by_fr by_gl by_gf w w6 := f6.up (by decide) (by decide)
  have b6 : ∀ h, bgf A h w w6 := fun h i _ => f6.l (by decide) (by decide) i
  have hP : bg_P X N A m t b = ((bm_whyM X (bg_lf A (bm_nn X) N b) m).isNone && decide (bm_lineM X (bg_lf A (bm_nn X) N b) m = t)) := rfl
  have no : bg_P X N A m t b = false → ∀ w', by_fr [71] [37, 38, 39, 40] w w' → Q w' := fun z w' f => by
    refine hq w' (f.up (by decide) (by decide)) (fun i _ => f.l (by decide) (by decide) i) ?_
    have ec := fa_cnt_no (p := bg_P X N A m t) z
    have k' := hk.fr f (by decide) (by decide) (by decide)
    refine ⟨by rw [ec]; exact k'.1, fun y => ?_⟩
    rw [ec] at y
    obtain ⟨f, a1, a2⟩ := k'.2 y
    exact ⟨f, bg_fst_up a1, a2⟩
  unfold by_tn at t6
  cases hwy : bm_whyM X (bg_lf A (bm_nn X) N b) m with
  | some p => exact ⟨fun _ => no (by rw [hP, hwy]; rfl) w6 f6, fun z => absurd z br_ft⟩
  | none =>
    rw [hwy] at t6
    refine ⟨fun z => absurd z br_tf, fun _ => ?_⟩
    have hLl := bm_lineM_len hWb.1 hx hm
    have hLb : ∀ x ∈ bm_lineM X (bg_lf A (bm_nn X) N b) m, x < 256 := bm_line_b hWb.1 hx hm _ 0 [] (by omega) (fun x hx => by cases hx)
    refine ⟨fun v w9 => v = decide (bm_lineM X (bg_lf A (bm_nn X) N b) m = t) ∧ w6 = w9, ys_isTape (d := d + 9) ht (hT.fr f6 (by decide) (by decide)) t6.1 hLl hLb ⟨rfl, rfl⟩, ?_⟩
    rintro _ _ ⟨rfl, rfl⟩
    cases hl : decide (bm_lineM X (bg_lf A (bm_nn X) N b) m = t) with
    | false => exact ⟨fun _ => no (by rw [hP, hwy, hl]; rfl) w6 f6, fun z => absurd z br_ft⟩
    | true =>
      have hp : bg_P X N A m t b = true := by rw [hP, hwy, hl]; rfl
      have ec := fa_cnt_yes (p := bg_P X N A m t) hp
      have k6 := hk.fr f6 (by decide) (by decide) (by decide)
      refine ⟨fun z => absurd z br_tf, fun _ => ?_⟩
      by_cases c0 : fa_cnt (bg_P X N A m t) b = 0
      · -- the first one
        have e47 : ∀ {w' : bw_W}, by_fr [74, 75] [] w6 w' → gw_i w' 50 47 = 0 := fun {w'} f => by
          rw [f.i5 (by decide), k6.1, c0]; rfl
        have st : ∀ k w1, k < 3 → by_fr [74, 75] [] w6 w1 → (∀ j, j < k → bg_a A j = true → gw_i w1 74 j = nI (bg_dg A (bm_nn X) b j / 2) ∧ gw_i w1 75 j = nI (1 + bg_dg A (bm_nn X) b j % 2)) → (∀ w2, by_fr [74, 75] [] w6 w2 → (∀ j, j < k + 1 → bg_a A j = true → gw_i w2 74 j = nI (bg_dg A (bm_nn X) b j / 2) ∧ gw_i w2 75 j = nI (1 + bg_dg A (bm_nn X) b j % 2)) → bw_G E (d + 10) mX12_guesses 23 [some (.ref 50), some (.int (nI m)), some (.int A), some (.int (nI 3)), some (.int (nI (k + 1))), none] [] w2 (bw_qv Q)) → bw_G E (d + 10) mX12_guesses 23 [some (.ref 50), some (.int (nI m)), some (.int A), some (.int (nI 3)), some (.int (nI k)), none] [] w1 (bw_qv Q) := by
          intro k w1 hk3 f1 hj hn
          refine wfX12_guesses_23 (br_f (nI_ge (a := k) (b := 3) hk3 (by decide)) (br_nf (e47 f1) ⟨yv_in hk3, bm_in hk3 (by decide), yv_in2 hk3, bm_in hk3 (by decide), ?_⟩))
          rw [nI_clamp (by omega), nI_1]
          refine hn _ ((f1.si (by decide) (by decide)).si (by decide) (by decide)) (fun j hjk ha => ?_)
          rw [gs_ii, gs_ii, gs_ii, gs_ii]
          by_cases ej : j = k
          · subst ej
            rw [if_neg (by omega), if_pos ⟨rfl, rfl⟩, if_pos ⟨rfl, rfl⟩]
            have hN1 : by_N (bg_lf A (bm_nn X) N b) w1 := by_N_hi hN (fun i hi => by rw [f1.l (by decide) (by decide), f6.l (by decide) (by decide)])
            have eh : bm_hol (bg_lf A (bm_nn X) N b) j = some (bg_dg A (bm_nn X) b j / 2, 1 + bg_dg A (bm_nn X) b j % 2) := by
              show (if bg_a A j = true then bg_fl (bg_dg A (bm_nn X) b j) else bm_hol N j) = _
              rw [if_pos ha]; rfl
            refine ⟨yv_noun hN1 hk3 eh, ?_⟩
            exact yv_count (by_N_hi hN1 (fun i hi => rfl)) hk3 eh
          · rw [if_neg (by omega), if_neg (by omega), if_neg (by omega), if_neg (by omega)]
            exact hj j (by omega) ha
        refine st 0 w6 (by decide) (by_fr.rf _ _ _) (fun j hj => absurd hj (Nat.not_lt_zero j)) (fun w7 f7 j7 => st 1 w7 (by decide) f7 j7 (fun w8 f8 j8 => st 2 w8 (by decide) f8 j8 (fun w9 f9 j9 => ?_)))
        refine wfX12_guesses_23 (br_t (by decide) ?_)
        refine hq _ ((f6'.tr (f9.up (by decide) (by decide))).s5 (by decide)) (fun i hi => by rw [gs_li, f9.l (by decide) (by decide), f6.l (by decide) (by decide)]) ⟨?_, fun _ => ⟨b, ⟨Nat.lt_succ_self b, hp, fun j hj => bg_cnt0 c0 j hj⟩, fun k hk3 ha => ?_⟩⟩
        · rw [gs_ii, if_pos ⟨rfl, rfl⟩, e47 f9, ec, c0]; rfl
        · rw [gs_ii, if_neg (by omega), gs_ii, if_neg (by omega)]; exact j9 k hk3 ha
      · refine wfX12_guesses_23 (br_f (by decide) ?_)
        rw [k6.1, nI_1, nI_z (by omega)]
        refine br_nt c0 (hq _ (f6'.s5 (by decide)) (fun i hi => by rw [gs_li]; exact b6 3 i hi) ⟨?_, fun _ => ?_⟩)
        · rw [gs_ii, if_pos ⟨rfl, rfl⟩, ec]
        · obtain ⟨f, a1, a2⟩ := k6.2 c0
          refine ⟨f, bg_fst_up a1, fun k hk3 ha => ?_⟩
          rw [gs_ii, if_neg (by omega), gs_ii, if_neg (by omega)]; exact a2 k hk3 ha
/-- a hole that isn't asked -/
theorem ys_gn {h b sz : Nat} {D : Nat → Nat} (hh : h < 3) (ha : bg_a A h = false) (hc : bg_ct E (d + 9) X N A m t (h + 1) b sz D) : bg_ct E (d + 10) X N A m t h b sz D := by
  intro Q w hX hT hy hk hq
  refine wfX12_guesses (br_nt (fun z => by have := (nI_eq (a := h) (b := 3) (by omega) (by decide)).mp z; omega) ?_)
  rw [bg_a1, nI_1]
  exact br_f (by rw [ha]; decide) ⟨Q, hc Q w hX hT (bgy_skip ha hy) hk (fun w' f g k => hq w' f g.dn k), fun _ h => h⟩
/-- a hole that is asked -/
theorem ys_ga {h b sz : Nat} {D : Nat → Nat} (hx : bm_wfX X) (hh : h < 3) (ha : bg_a A h = true) (hc : ∀ ch, ch < 2 * bm_nn X → bg_ct E (d + 9) X N A m t (h + 1) (b + ch * sz) sz (bm_set D h ch)) : bg_ct E (d + 10) X N A m t h b (2 * bm_nn X * sz) D := by
  intro Q w hX hT hy hk hq
  have h6 := hx.1
  refine wfX12_guesses (br_nt (fun z => by have := (nI_eq (a := h) (b := 3) (by omega) (by decide)).mp z; omega) ?_)
  rw [bg_a1]
  refine br_t ha ?_
  have one : ∀ n c (w1 : bw_W), n < bm_nn X → c < 2 → by_fr by_gl by_gf w w1 → bgf A h w w1 → bgk (bg_P X N A m t) A (bm_nn X) N (b + (2 * n + c) * sz) w1 → (∀ w', by_fr by_gl by_gf w w' → bgf A h w w' → bgk (bg_P X N A m t) A (bm_nn X) N (b + (2 * n + c + 1) * sz) w' → bw_G E (d + 10) mX12_guesses 112 [some (.ref 50), some (.int (nI m)), some (.int A), some (.int (nI h)), some (.int (nI n)), some (.int (nI (1 + c + 1)))] [] w' (bw_qv Q)) → bw_G E (d + 10) mX12_guesses 112 [some (.ref 50), some (.int (nI m)), some (.int A), some (.int (nI h)), some (.int (nI n)), some (.int (nI (1 + c)))] [] w1 (bw_qv Q) := by
    intro n c w1 hn hc2 f1 g1 k1 nxt
    refine wfX12_guesses_112 (br_f (nI_ge (a := 1 + c) (b := 3) (by omega) (by decide)) ⟨yv_in hh, yv_in2 hh, yv_in2 hh, ?_⟩)
    rw [nI_1, nI_1, show (1 : Int32) + 2 * nI h + 1 = nI (2 + 2 * h) by rw [nl_2, nl_1, pk_mul, nI_add, nI_add]; congr 1; omega, show (1 : Int32) + 2 * nI h = nI (1 + 2 * h) by rw [nl_2, nl_1, pk_mul, nI_add], nI_clamp (by omega), nI_clamp (by omega), nI_l (by omega), nI_l (by omega)]
    have f2 : by_fr by_gl by_gf w1 (sw_l (sw_l w1 63 (1 + 2 * h) (lN n)) 63 (2 + 2 * h) (lN (1 + c))) := ((by_fr.rf _ _ _).sl (by decide) (by decide)).sl (by decide) (by decide)
    have f3 : by_fr [63] [] w1 (sw_l (sw_l w1 63 (1 + 2 * h) (lN n)) 63 (2 + 2 * h) (lN (1 + c))) := ((by_fr.rf _ _ _).sl (by decide) (by decide)).sl (by decide) (by decide)
    have hg2 : bgf A h w1 (sw_l (sw_l w1 63 (1 + 2 * h) (lN n)) 63 (2 + 2 * h) (lN (1 + c))) := fun i hi => by
      have := hi h (Nat.le_refl _) hh ha
      rw [gs_ll, if_neg (fun q => this.2 q.2), gs_ll, if_neg (fun q => this.1 q.2)]
    have hy2 := bgy_set (ch := 2 * n + c) hh ha (hy.f g1)
    rw [show (2 * n + c) / 2 = n by omega, show (2 * n + c) % 2 = c by omega] at hy2
    refine ⟨fun w6 => by_fr by_gl by_gf (sw_l (sw_l w1 63 (1 + 2 * h) (lN n)) 63 (2 + 2 * h) (lN (1 + c))) w6 ∧ bgf A (h + 1) (sw_l (sw_l w1 63 (1 + 2 * h) (lN n)) 63 (2 + 2 * h) (lN (1 + c))) w6 ∧ bgk (bg_P X N A m t) A (bm_nn X) N (b + (2 * n + c) * sz + sz) w6, hc (2 * n + c) (by omega) _ _ ((hX.fr f1 (by decide) (by decide) (by decide)).fr f2 (by decide) (by decide) (by decide)) ((hT.fr f1 (by decide) (by decide)).fr f2 (by decide) (by decide)) hy2 (k1.fr f3 (by decide) (by decide) (by decide)) (fun w' f g k => ⟨f, g, k⟩), ?_⟩
    rintro w6 ⟨f6, g6, k6⟩
    refine nxt w6 ((f1.tr f2).tr f6) ((g1.tr hg2).tr g6.dn) ?_
    rw [Nat.add_mul (2 * n + c) 1 sz, Nat.one_mul, ← Nat.add_assoc]; exact k6
  have key : ∀ j n (w1 : bw_W), n + j = bm_nn X → by_fr by_gl by_gf w w1 → bgf A h w w1 → bgk (bg_P X N A m t) A (bm_nn X) N (b + (2 * n) * sz) w1 → bw_G E (d + 10) mX12_guesses 100 [some (.ref 50), some (.int (nI m)), some (.int A), some (.int (nI h)), some (.int (nI n)), none] [] w1 (bw_qv Q) := by
    intro j
    induction j with
    | zero =>
      intro n w1 hn f1 g1 k1
      have e : n = bm_nn X := by omega
      subst e
      refine wfX12_guesses_100 ?_
      rw [f1.i5 (by decide), hX.1]
      exact br_t (nI_le (Nat.le_refl _) (by omega)) (hq w1 f1 g1 k1)
    | succ j ih =>
      intro n w1 hn f1 g1 k1
      refine wfX12_guesses_100 ?_
      rw [f1.i5 (by decide), hX.1]
      refine br_f (nI_ge (by omega) (by omega)) ?_
      refine one n 0 w1 (by omega) (by decide) f1 g1 k1 (fun w2 f2 g2 k2 => ?_)
      refine one n 1 w2 (by omega) (by decide) f2 g2 k2 (fun w3 f3 g3 k3 => ?_)
      refine wfX12_guesses_112 (br_t (by decide) ?_)
      rw [nI_1]
      exact ih (n + 1) w3 (by omega) f3 g3 (by rw [show 2 * (n + 1) = 2 * n + 1 + 1 by omega]; exact k3)
  exact key (bm_nn X) 0 w (by omega) (by_fr.rf _ _ _) (bgf.rf _ _ _) (by rw [Nat.mul_zero, Nat.zero_mul, Nat.add_zero]; exact hk)
theorem bg_ix0 {e1 e2 x0 x1 x2 : Nat} (h1 : x1 < e1) (h2 : x2 < e2) : ((x0 * e1 + x1) * e2 + x2) / e2 / e1 = x0 ∧ ((x0 * e1 + x1) * e2 + x2) / e2 % e1 = x1 ∧ ((x0 * e1 + x1) * e2 + x2) % e2 = x2 := by
  have a : ((x0 * e1 + x1) * e2 + x2) / e2 = x0 * e1 + x1 := by
    rw [Nat.mul_comm, Nat.mul_add_div (by omega), Nat.div_eq_of_lt h2, Nat.add_zero]
  have b : ((x0 * e1 + x1) * e2 + x2) % e2 = x2 := by
    rw [Nat.mul_comm, Nat.mul_add_mod, Nat.mod_eq_of_lt h2]
  rw [a, b]
  refine ⟨?_, ?_, rfl⟩
  · rw [Nat.mul_comm, Nat.mul_add_div (by omega), Nat.div_eq_of_lt h1, Nat.add_zero]
  · rw [Nat.mul_comm, Nat.mul_add_mod, Nat.mod_eq_of_lt h1]
theorem bg_ixlt {e0 e1 e2 x0 x1 x2 : Nat} (h0 : x0 < e0) (h1 : x1 < e1) (h2 : x2 < e2) : (x0 * e1 + x1) * e2 + x2 < e2 * (e1 * e0) := by
  have a : (x0 * e1 + x1) + 1 ≤ e0 * e1 := by
    have := Nat.mul_le_mul_right e1 (show x0 + 1 ≤ e0 from h0)
    rw [Nat.add_mul, Nat.one_mul] at this
    omega
  have b := Nat.mul_le_mul_right e2 a
  rw [Nat.add_mul, Nat.one_mul] at b
  have c : e0 * e1 * e2 = e2 * (e1 * e0) := by rw [Nat.mul_comm, Nat.mul_comm e0]
  omega
theorem ys_g {D : Nat → Nat} (hx : bm_wfX X) (hm : m < bm_nm X) (ht : bm_wfT t) (hW : bm_wfn X N) (h0 : 0 < bm_nn X) : bg_ct E (d + 13) X N A m t 0 0 (bg_F A (bm_nn X)) D := by
  have h6 := hx.1
  have p0 := bg_e_le (A := A) (k := 0) h0 h6
  have p1 := bg_e_le (A := A) (k := 1) h0 h6
  have p2 := bg_e_le (A := A) (k := 2) h0 h6
  have l3 : ∀ x0 x1 x2 D, x0 < bg_e A (bm_nn X) 0 → x1 < bg_e A (bm_nn X) 1 → x2 < bg_e A (bm_nn X) 2 → (bg_a A 0 = true → D 0 = x0) → (bg_a A 1 = true → D 1 = x1) → (bg_a A 2 = true → D 2 = x2) → bg_ct E (d + 10) X N A m t 3 ((x0 * bg_e A (bm_nn X) 1 + x1) * bg_e A (bm_nn X) 2 + x2) 1 D := by
    intro x0 x1 x2 D g0 g1 g2 d0 d1 d2
    refine ys_g3 hx hm ht hW h0 (bg_ixlt g0 g1 g2) (fun k hk ha => ?_)
    obtain ⟨i0, i1, i2⟩ := bg_ix0 (x0 := x0) g1 g2
    unfold bg_dg
    rcases (by omega : k = 0 ∨ k = 1 ∨ k = 2) with rfl | rfl | rfl
    · rw [if_pos rfl, i0]; exact d0 ha
    · rw [if_neg (by decide), if_pos rfl, i1]; exact d1 ha
    · rw [if_neg (by decide), if_neg (by decide), i2]; exact d2 ha
  have l2 : ∀ x0 x1 D, x0 < bg_e A (bm_nn X) 0 → x1 < bg_e A (bm_nn X) 1 → (bg_a A 0 = true → D 0 = x0) → (bg_a A 1 = true → D 1 = x1) → bg_ct E (d + 11) X N A m t 2 ((x0 * bg_e A (bm_nn X) 1 + x1) * bg_e A (bm_nn X) 2) (bg_e A (bm_nn X) 2) D := by
    intro x0 x1 D g0 g1 d0 d1
    cases ha : bg_a A 2 with
    | false =>
      have := l3 x0 x1 0 D g0 g1 p2.1 d0 d1 (fun z => by rw [ha] at z; cases z)
      rw [bg_e_f ha] at this ⊢
      exact ys_gn (d := d + 1) (by decide) ha this
    | true =>
      have := ys_ga (E := E) (d := d + 1) (X := X) (N := N) (A := A) (m := m) (t := t) (h := 2) (b := (x0 * bg_e A (bm_nn X) 1 + x1) * bg_e A (bm_nn X) 2) (sz := 1) (D := D) hx (by decide) ha (fun ch hch => by
        have := l3 x0 x1 ch (bm_set D 2 ch) g0 g1 (by rw [bg_e_t ha]; exact hch) (fun z => by rw [bm_set_ne (by decide)]; exact d0 z) (fun z => by rw [bm_set_ne (by decide)]; exact d1 z) (fun _ => bm_set_eq _ _ _)
        rw [Nat.mul_one]; exact this)
      rw [Nat.mul_one] at this
      rw [bg_e_t (k := 2) ha] at this ⊢
      exact this
  have l1 : ∀ x0 D, x0 < bg_e A (bm_nn X) 0 → (bg_a A 0 = true → D 0 = x0) → bg_ct E (d + 12) X N A m t 1 (x0 * bg_e A (bm_nn X) 1 * bg_e A (bm_nn X) 2) (bg_e A (bm_nn X) 1 * bg_e A (bm_nn X) 2) D := by
    intro x0 D g0 d0
    cases ha : bg_a A 1 with
    | false =>
      have := l2 x0 0 D g0 p1.1 d0 (fun z => by rw [ha] at z; cases z)
      rw [bg_e_f (k := 1) ha, Nat.mul_one, Nat.add_zero] at this
      rw [bg_e_f (k := 1) ha, Nat.mul_one, Nat.one_mul]
      exact ys_gn (d := d + 2) (by decide) ha this
    | true =>
      have := ys_ga (E := E) (d := d + 2) (X := X) (N := N) (A := A) (m := m) (t := t) (h := 1) (b := x0 * bg_e A (bm_nn X) 1 * bg_e A (bm_nn X) 2) (sz := bg_e A (bm_nn X) 2) (D := D) hx (by decide) ha (fun ch hch => by
        have := l2 x0 ch (bm_set D 1 ch) g0 (by rw [bg_e_t ha]; exact hch) (fun z => by rw [bm_set_ne (by decide)]; exact d0 z) (fun _ => bm_set_eq _ _ _)
        rw [Nat.add_mul] at this; exact this)
      rw [← bg_e_t (k := 1) ha] at this
      exact this
  cases ha : bg_a A 0 with
  | false =>
    have := l1 0 D p0.1 (fun z => by rw [ha] at z; cases z)
    rw [Nat.zero_mul, Nat.zero_mul] at this
    unfold bg_F
    rw [bg_e_f (k := 0) ha, Nat.mul_one, Nat.mul_comm]
    exact ys_gn (d := d + 3) (by decide) ha this
  | true =>
    have := ys_ga (E := E) (d := d + 3) (X := X) (N := N) (A := A) (m := m) (t := t) (h := 0) (b := 0) (sz := bg_e A (bm_nn X) 1 * bg_e A (bm_nn X) 2) (D := D) hx (by decide) ha (fun ch hch => by
      have := l1 ch (bm_set D 0 ch) (by rw [bg_e_t ha]; exact hch) (fun _ => bm_set_eq _ _ _)
      rw [show 0 + ch * (bg_e A (bm_nn X) 1 * bg_e A (bm_nn X) 2) = ch * bg_e A (bm_nn X) 1 * bg_e A (bm_nn X) 2 by rw [Nat.zero_add, Nat.mul_assoc]]; exact this)
    rw [← bg_e_t (k := 0) ha] at this
    unfold bg_F
    rw [show bg_e A (bm_nn X) 2 * (bg_e A (bm_nn X) 1 * bg_e A (bm_nn X) 0) = bg_e A (bm_nn X) 0 * (bg_e A (bm_nn X) 1 * bg_e A (bm_nn X) 2) by rw [Nat.mul_comm, Nat.mul_comm (bg_e A (bm_nn X) 1), Nat.mul_assoc]]
    exact this
abbrev by_gql : List Nat := [63, 71, 73, 74, 75]
theorem by_gql_sc : (∀ c, c ∈ by_gql → by_sc c ∨ c = 63) ∧ (∀ c, c ∈ by_gf → by_sf c) := by
  have h1 : ∀ c, c ∈ by_gql → c = 63 ∨ c = 71 ∨ c = 73 ∨ c = 74 ∨ c = 75 := by decide
  have h2 : ∀ c, c ∈ by_gf → c = 37 ∨ c = 38 ∨ c = 39 ∨ c = 40 ∨ c = 47 := by decide
  refine ⟨fun c q => ?_, fun c q => ?_⟩
  · have := h1 c q; unfold by_sc; omega
  · have := h2 c q; unfold by_sf; omega
theorem qm_guess {K : Nat} {S : bm_S} {Q : Int32 → bw_W → Prop} {a0 a1 : Int32} (hw : bm_wfS K S) (h : by_S S w) (hq : ∀ w', by_fr by_gql by_gf w w' → by_S S w' → Q (br_guess (st_X S) (st_N S) (st_t S) a0 a1) w') : bw_ri E (d + 14) mX12_guess [.ref 50, .int a0, .int a1] w Q := by
  have hx := hw.2.1
  have hm4 := hx.2.1
  have h6 := hx.1
  unfold br_guess at hq
  refine wfX12_guess (d := d + 3) ?_
  rw [by_H0 h.2.1 hx, h.2.1.2.1, bm_m_iff (by omega), bg_wh_iff2]
  cases e0 : bm_ix a0 (bm_nm (st_X S)) with
  | none => rw [e0] at hq; exact br_nt (fun q => q.2 rfl) (hq w (by_fr.rf _ _ _) h)
  | some m =>
    rw [e0] at hq
    obtain ⟨gm, rfl⟩ := bm_ix_some e0
    simp only at hq
    have h0 : 0 < bm_nn (st_X S) := by
      rcases Nat.eq_zero_or_pos (bm_nn (st_X S)) with z | z
      · have := hx.2.2.2.2.2 z; omega
      · exact z
    refine br_nf ⟨by omega, by simp⟩ ?_
    cases e1 : bg_wh a1 with
    | none => rw [e1] at hq; exact br_f (fun z => z rfl) (hq w (by_fr.rf _ _ _) h)
    | some o =>
      rw [e1] at hq
      simp only at hq
      refine br_t (by simp) ⟨fun v w3 => br_ask (st_X S) m (bm_cnt (st_X S) m) = v ∧ w = w3, ys_ask (d := d + 13) h.2.1 hx gm ⟨rfl, rfl⟩, ?_⟩
      rintro _ _ ⟨rfl, rfl⟩
      generalize hA : br_ask (st_X S) m (bm_cnt (st_X S) m) = A at hq ⊢
      generalize hwz : sw_i w 50 47 0 = wz
      have fz : by_fr by_gql by_gf w wz := by rw [← hwz]; exact (by_fr.rf _ _ _).s5 (by decide)
      generalize hw1 : cp_l wz 73 0 63 0 55 = w1
      have f1 : by_fr by_gql by_gf wz w1 := by rw [← hw1]; exact (by_fr.rf _ _ _).cp (by decide) (by decide)
      refine ⟨fun w6 => w1 = w6, ys_put (d := d + 13) hw1.symm, ?_⟩
      rintro _ rfl
      have e63 : ∀ i, gw_l w1 63 i = gw_l w 63 i := fun i => by rw [← hw1, cp_l_ne (by decide), ← hwz, gs_li]
      have fz1 := fz.tr f1
      have hy : bgy A (st_N S) 0 (fun _ => 0) w1 := fun i hi hc => by
        rw [e63, h.2.2.1.1 i hi]
        have e : cy_N (bg_N A (st_N S) (fun _ => 0)) i = cy_N (st_N S) i := by
          unfold cy_N
          by_cases c0 : i = 0
          · rw [if_pos c0, if_pos c0]; rfl
          · rw [if_neg c0, if_neg c0]
            by_cases c7 : i < 7
            · rw [if_pos c7, if_pos c7]
              have hh : bm_hol (bg_N A (st_N S) (fun _ => 0)) ((i - 1) / 2) = bm_hol (st_N S) ((i - 1) / 2) := by
                show (if bg_a A ((i - 1) / 2) = true then bg_fl 0 else bm_hol (st_N S) ((i - 1) / 2)) = _
                rw [if_neg (fun q => by have := hc ((i - 1) / 2) (by omega) (by omega) q; omega)]
              rw [hh]
            · rw [if_neg c7, if_neg c7]; rfl
        exact e.symm
      refine ⟨fun w9 => by_fr by_gl by_gf w1 w9 ∧ bgf A 0 w1 w9 ∧ bgk (bg_P (st_X S) (st_N S) A m (st_t S)) A (bm_nn (st_X S)) (st_N S) (0 + bg_F A (bm_nn (st_X S))) w9, ys_g (d := d) hx gm hw.1 hw.2.2.1 h0 _ w1 (h.2.1.fr fz1 (by decide) (by decide) (by decide)) (h.1.fr fz1 (by decide) (by decide)) hy ⟨?_, fun z => absurd rfl z⟩ (fun w' f g k => ⟨f, g, k⟩), ?_⟩
      · rw [← hw1, cp_l_i, ← hwz, gs_ii, if_pos ⟨rfl, rfl⟩]; rfl
      rintro w9 ⟨f9, g9, k9⟩
      rw [Nat.zero_add] at k9
      refine ⟨fun w12 => cp_l w9 63 0 73 0 55 = w12, ys_bring (d := d + 13) rfl, ?_⟩
      rintro _ rfl
      have fF : by_fr by_gql by_gf w (cp_l w9 63 0 73 0 55) := (fz1.tr (f9.up (by decide) (by decide))).cp (by decide) (by decide)
      have hS := h.frN fF by_gql_sc.1 by_gql_sc.2 (fun i _ => by
        rw [ym_aside hw1 (fun i hi => f9.l (by decide) (by decide) i) (fun i hi => g9 i (fun k _ h3 _ => by omega)) i, ← hwz, gs_li])
      have qq := hq _ fF hS
      have hcl := fa_cnt_le (bg_P (st_X S) (st_N S) A m (st_t S)) (bg_F A (bm_nn (st_X S)))
      have hF := bg_F_le (A := A) h0 h6
      rw [cp_l_i, k9.1, nI_z (by omega)]
      rcases bg_wh_some e1 with ⟨rfl, rfl⟩ | ⟨j, rfl, hj, rfl⟩
      · refine br_nf rfl ⟨fun z => ?_, fun z => ?_⟩
        · rw [if_neg z] at qq; exact qq
        · rw [if_pos z] at qq; exact qq
      · refine br_nt (nI_ne_m1 (by omega)) ?_
        by_cases z : fa_cnt (bg_P (st_X S) (st_N S) A m (st_t S)) (bg_F A (bm_nn (st_X S))) = 0
        · rw [if_pos z] at qq
          rw [z]
          exact br_t (by decide) qq
        · rw [if_neg z] at qq
          simp only at qq
          refine br_f (nI_nle (by omega) (by omega)) ?_
          have ej : nI j - nI j / 3 * 3 = nI (j % 3) := pk_rem (d := 3) (by omega) (by decide) (by decide)
          have j3 : j % 3 < 3 := Nat.mod_lt _ (by decide)
          rw [ej, bg_a1]
          obtain ⟨f, b1, b2⟩ := k9.2 z
          rw [← bg_fst_eq b1] at qq
          cases ha : bg_a A (j % 3) with
          | false =>
            rw [ha, if_neg (by decide)] at qq
            exact br_nt (by decide) qq
          | true =>
            rw [ha, if_pos rfl] at qq
            have b3 := b2 (j % 3) j3 ha
            refine br_nf rfl ⟨fun c3 => ?_, fun c3 => ?_⟩
            · have c3' : 3 ≤ j := (nI_leI (a := 3) (by decide) (by omega)).mp c3
              rw [if_pos c3'] at qq
              rw [nl_3, pk_sub c3', nI_clamp (by omega)]
              refine ⟨bm_in (by omega) (by decide), ?_⟩
              rw [cp_l_i, show j - 3 = j % 3 by omega, b3.2]; exact qq
            · have c3' : ¬ 3 ≤ j := fun q => c3 (nI_le (a := 3) q (by omega))
              rw [if_neg c3'] at qq
              rw [nI_clamp (by omega)]
              refine ⟨bm_in (by omega) (by decide), ?_⟩
              rw [cp_l_i, show j = j % 3 by omega, b3.1]
              exact qq
end GUESS3
