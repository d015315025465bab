/-! forms, bound words, items: the reference -/
section MLEX2
variable {E : bw_E} {d : Nat} {w : bw_W} {t : List Nat} {D : bd_D}
theorem by_r.of {w' : bw_W} {D' : bd_D} {q : Nat} (hM : by_M t w' (.inr q)) (hD : by_D D' w') : by_r t w' (.inr (D', q)) := ⟨hM.1, hM.2, hD⟩
/-- a word into a table -/
theorem ys_once {Q : bw_W → Prop} {q p ta j : Nat} {old : List Nat} {μ : Nat ⊕ Nat} {g : List Nat → bd_D} (hta : ta = 54 ∨ ta = 55) (hj : j < 48) (ht : bm_wfT t) (hT : by_T t w) (hqq : q ≤ t.length) (hok : bu_ok t p μ) (hM : by_M t w μ) (hold : μ.isRight = true → gw_l w ta j = by_w old) (hoo : bm_ok old) (hg : ∀ u w', bm_ok u → by_fr [ta] by_tw w w' → (∀ k, gw_l w' ta k = if k = j then by_w u else gw_l w ta k) → by_D (g u) w') (hq : ∀ w', by_fr [ta] by_tw w w' → by_r t w' (bl_once t q old μ g) → Q w') :
    ((¬ (gw_i w 50 10) = (-1) → (∃ Q13 : Int64 → bw_W → Prop, bw_rl E (d + 4) mX12_anyWord [.ref 50] w Q13 ∧ ∀ v14 w15, Q13 v14 w15 → ((¬ (gw_i w15 50 10) = (-1) → Q w15) ∧ ((gw_i w15 50 10) = (-1) → (vp_in (nI j) 48) ∧ Q (sw_l w15 ta ((nI j).toNatClampNeg) v14))))) ∧ ((gw_i w 50 10) = (-1) → (vp_in (nI j) 48) ∧ (((gw_l w ta ((nI j).toNatClampNeg)) = 0 → (∃ Q18 : Int64 → bw_W → Prop, bw_rl E (d + 4) mX12_anyWord [.ref 50] w Q18 ∧ ∀ v19 w20, Q18 v19 w20 → ((¬ (gw_i w20 50 10) = (-1) → Q w20) ∧ ((gw_i w20 50 10) = (-1) → (vp_in (nI j) 48) ∧ Q (sw_l w20 ta ((nI j).toNatClampNeg) v19))))) ∧ (¬ (gw_l w ta ((nI j).toNatClampNeg)) = 0 → (∃ Q22 : Int64 → bw_W → Prop, bw_rl E (d + 4) mX12_anyWord [.ref 50] (sw_i w 50 10 (if ¬ (gw_i w 50 10) = (-1) then (gw_i w 50 10) else (nI q))) Q22 ∧ ∀ v23 w24, Q22 v23 w24 → ((¬ (gw_i w24 50 10) = (-1) → Q w24) ∧ ((gw_i w24 50 10) = (-1) → (vp_in (nI j) 48) ∧ Q (sw_l w24 ta ((nI j).toNatClampNeg) v23)))))))) := by
  have h480 := ht.1
  have ij : vp_in (nI j) 48 := bm_in hj (by decide)
  have n50 : ta ≠ 50 := by omega
  have nta : ∀ {w' : bw_W}, by_fr [] by_tw w w' → ∀ k, gw_l w' ta k = gw_l w ta k := fun f k => f.l (by simp) n50 k
  unfold bl_once at hq
  cases μ with
  | inl e =>
    have he : e ≤ t.length := hok
    have hM' : gw_i w 50 10 = nI e := hM
    have hb := by_bad10 (w := w) (e := e) (by omega) hM'
    refine br_nt hb ⟨fun v w15 => w = w15, ys_any0 (d := d + 1) hb rfl, ?_⟩
    rintro _ _ rfl
    exact br_nt hb (hq w (by_fr.rf _ _ _) hM')
  | inr q' =>
    have hpl : bm_pl t q' := hok.1
    have hpl1 := hpl.1
    dsimp only at hq
    rw [nI_clamp (by omega), hold rfl, by_w0 hoo]
    refine br_nf hM.1 ⟨ij, fun z => ?_, fun z => ?_⟩
    · rw [if_neg (fun y => y z)] at hq
      cases e : bp_word t q' with
      | none =>
        rw [e] at hq
        refine ⟨fun v w6 => by_fr [] by_tw w w6 ∧ gw_i w6 50 10 = nI q', ?_, ?_⟩
        · exact ys_any (d := d + 1) ht hT hM.2 hM.1 (fun _ w' f g => ⟨f, g⟩) (fun u' q' e' => by rw [e] at e'; cases e')
        rintro _ w6 ⟨f6, g6⟩
        exact br_nt (by_bad10 (e := q') (by omega) g6) (hq w6 (f6.up (by simp) (by simp)) g6)
      | some r =>
        obtain ⟨u, q2⟩ := r
        rw [e] at hq
        have o := bp_word_some hpl1 e
        refine ⟨fun v w6 => v = by_w u ∧ by_fr [] by_tw w w6 ∧ by_M t w6 (.inr q2), ?_, ?_⟩
        · refine ys_any (d := d + 1) ht hT hM.2 hM.1 (fun e' => by rw [e] at e'; cases e') (fun u' q' e' w' f g => ?_)
          rw [e] at e'
          cases e'
          exact ⟨rfl, f.up (by decide) (by decide), by rw [f.i5 (by decide)]; exact hM.1, g⟩
        rintro _ w6 ⟨rfl, f6, m6⟩
        refine br_nf m6.1 ⟨ij, ?_⟩
        have fF : by_fr [ta] by_tw w (sw_l w6 ta j (by_w u)) := (f6.up (by simp) (by simp)).sl (by simp) n50
        have fs : by_fr [ta] [] w6 (sw_l w6 ta j (by_w u)) := (by_fr.rf _ _ _).sl (by simp) n50
        refine hq _ fF (by_r.of (m6.s fs) (hg u _ o.1 fF (fun k => ?_)))
        rw [gs_ll]
        by_cases x : k = j
        · rw [if_pos ⟨rfl, x⟩, if_pos x]
        · rw [if_neg (fun y => x y.2), if_neg x]; exact nta f6 k
    · rw [if_pos z] at hq
      rw [if_neg (fun x => x hM.1)]
      have f1 : by_fr [] by_tw w (sw_i w 50 10 (nI q)) := (by_fr.rf _ _ _).s5 (by decide)
      have e1 : gw_i (sw_i w 50 10 (nI q)) 50 10 = nI q := by rw [gs_ii, if_pos ⟨rfl, rfl⟩]
      have hb := by_bad10 (w := sw_i w 50 10 (nI q)) (e := q) (by omega) e1
      refine ⟨fun v w24 => sw_i w 50 10 (nI q) = w24, ys_any0 (d := d + 1) hb rfl, ?_⟩
      rintro _ _ rfl
      exact br_nt hb (hq _ (f1.up (by simp) (by simp)) e1)
theorem by_D_setF {w' : bw_W} {j : Nat} {u : List Nat} (hD : by_D D w) (hf : by_fr [54] by_tw w w') (h8 : ∀ k, gw_l w' 54 k = if k = j then by_w u else gw_l w 54 k) : by_D (bd_setF D j u) w' := by
  unfold by_D
  rw [hf.i5 (by decide), hf.i5 (by decide)]
  refine ⟨hD.1, hD.2.1, fun i hi => ?_, fun k hk => ?_, fun k hk => ?_, fun m hm => ⟨?_, ?_, fun i hi => ?_⟩⟩
  · rw [hf.l (by decide) (by decide), hf.i (by decide) (by decide)]; exact hD.2.2.1 i hi
  · show _ = by_w (bm_set (dd_f D) j u k)
    rw [h8]
    by_cases z : k = j
    · rw [if_pos z, z, bm_set_eq]
    · rw [if_neg z, bm_set_ne z]; exact hD.2.2.2.1 k hk
  · rw [hf.l (by decide) (by decide)]; exact hD.2.2.2.2.1 k hk
  · rw [hf.l (by decide) (by decide)]; exact (hD.2.2.2.2.2 m hm).1
  · rw [hf.i (by decide) (by decide)]; exact (hD.2.2.2.2.2 m hm).2.1
  · exact ((hD.2.2.2.2.2 m hm).2.2 i hi).fr hf (by decide) (by decide)
theorem by_D_setW {w' : bw_W} {j : Nat} {u : List Nat} (hD : by_D D w) (hf : by_fr [55] by_tw w w') (h8 : ∀ k, gw_l w' 55 k = if k = j then by_w u else gw_l w 55 k) : by_D (bd_setW D j u) w' := by
  unfold by_D
  rw [hf.i5 (by decide), hf.i5 (by decide)]
  refine ⟨hD.1, hD.2.1, fun i hi => ?_, fun k hk => ?_, fun k hk => ?_, fun m hm => ⟨?_, ?_, fun i hi => ?_⟩⟩
  · rw [hf.l (by decide) (by decide), hf.i (by decide) (by decide)]; exact hD.2.2.1 i hi
  · rw [hf.l (by decide) (by decide)]; exact hD.2.2.2.1 k hk
  · show _ = by_w (bm_set (bm_wds (dd_X D)) j u k)
    rw [h8]
    by_cases z : k = j
    · rw [if_pos z, z, bm_set_eq]
    · rw [if_neg z, bm_set_ne z]; exact hD.2.2.2.2.1 k hk
  · rw [hf.l (by decide) (by decide)]; exact (hD.2.2.2.2.2 m hm).1
  · rw [hf.i (by decide) (by decide)]; exact (hD.2.2.2.2.2 m hm).2.1
  · exact ((hD.2.2.2.2.2 m hm).2.2 i hi).fr hf (by decide) (by decide)
theorem ys_rform {Q : bw_W → Prop} {q q1 : Nat} (ht : bm_wfT t) (hT : by_T t w) (hd : bd_wf D) (hD : by_D D w) (hw : gw_i w 50 10 = -1) (hC : by_C t q1 w) (hqq : q ≤ t.length) (hq : ∀ w', by_fr by_ll by_lf w w' → by_r t w' (bl_form t q q1 D) → Q w') : bw_rv E (d + 5) mX12_readsForm [.ref 50, .int (nI q)] w Q := by
  have h6 := hd.1
  have h480 := ht.1
  have hpl := hC.2.1
  have hpl1 := hpl.1
  unfold bl_form at hq
  refine wfX12_readsForm ⟨fun v w3 => v = bd_oI (bd_at t q1 (bm_nam (dd_X D)) (bm_nn (dd_X D))) ∧ w = w3, ys_nhere (d := d + 2) ht hw hC hd hD ⟨rfl, rfl⟩, ?_⟩
  rintro _ _ ⟨rfl, rfl⟩
  unfold bd_at
  have bad : (∀ w', by_fr by_ll by_lf w w' → gw_i w' 50 10 = nI q1 → Q w') → Q (sw_i w 50 10 (if ¬ (gw_i w 50 10) = (-1) then (gw_i w 50 10) else (gw_i w 50 5))) := fun h => by
    rw [if_neg (fun x => x hw), hC.1]
    exact h _ ((by_fr.rf _ _ _).s5 (by decide)) (by rw [gs_ii, if_pos ⟨rfl, rfl⟩])
  cases e : bp_word t q1 with
  | none => rw [e] at hq; exact br_nf rfl (bad hq)
  | some r =>
    obtain ⟨u, q2⟩ := r
    have o := bp_word_some hpl1 e
    rw [e] at hq
    dsimp only at hq ⊢
    cases e2 : bd_fi (bm_nam (dd_X D)) u (bm_nn (dd_X D)) 0 with
    | none => rw [e2] at hq; exact br_nf rfl (bad hq)
    | some n =>
      have hn := bd_fi_some e2
      rw [e2] at hq
      dsimp only at hq
      have ok0 : bu_ok t q1 (.inr q2) := ⟨bp_word_pl hpl1 e, o.2.2.2.2.2.2.2⟩
      have o1 := bu_num_ok (m := 1) (hi := 3) ok0
      have o2 := bu_num_ok (m := 1) (hi := 1) o1.1
      refine br_nt (nI_ne_m1 (n := n) (by omega)) ⟨fun w6 => by_fr [] by_tf w w6 ∧ by_M t w6 (.inr q2), ys_nextW (d := d + 2) ht hT hC e (fun w' f c => ⟨f, by rw [f.i5 (by decide)]; exact hw, c⟩), ?_⟩
      rintro w6 ⟨f6, m6⟩
      have f6' : by_fr [] by_tw w w6 := f6.up (by decide) (by decide)
      refine ⟨fun v w9 => v = nI (bu_num t 1 3 (.inr q2)).1 ∧ by_fr [] by_tw w6 w9 ∧ by_M t w9 (bu_num t 1 3 (.inr q2)).2, ys_digU (d := d) (hi := 3) (by decide) ht (hT.tw f6' (by decide)) ok0 m6 (fun w' f g => ⟨rfl, f, g⟩), ?_⟩
      rintro _ w9 ⟨rfl, f9, m9⟩
      have f69 := f6'.tr f9
      refine ⟨fun v w12 => v = nI (bu_num t 1 1 (bu_num t 1 3 (.inr q2)).2).1 ∧ by_fr [] by_tw w9 w12 ∧ by_M t w12 (bu_num t 1 1 (bu_num t 1 3 (.inr q2)).2).2, ys_digU (d := d) (hi := 1) (by decide) ht (hT.tw f69 (by decide)) o1.1 m9 (fun w' f g => ⟨rfl, f, g⟩), ?_⟩
      rintro _ w12 ⟨rfl, f12, m12⟩
      have fA := f69.tr f12
      have hDA := hD.tw fA
      have es : (8 : Int32) * bd_oI (some n) + (2 * nI (bu_num t 1 3 (.inr q2)).1 + nI (bu_num t 1 1 (bu_num t 1 3 (.inr q2)).2).1) = nI (8 * n + 2 * (bu_num t 1 3 (.inr q2)).1 + (bu_num t 1 1 (bu_num t 1 3 (.inr q2)).2).1) := by
        show (8 : Int32) * nI n + (2 * nI (bu_num t 1 3 (.inr q2)).1 + nI (bu_num t 1 1 (bu_num t 1 3 (.inr q2)).2).1) = _
        rw [nl_8, nl_2, pk_mul, pk_mul, nI_add, nI_add]; congr 1; omega
      rw [es]
      exact ys_once (d := d) (ta := 54) (old := dd_f D (8 * n + 2 * (bu_num t 1 3 (.inr q2)).1 + (bu_num t 1 1 (bu_num t 1 3 (.inr q2)).2).1)) (g := bd_setF D (8 * n + 2 * (bu_num t 1 3 (.inr q2)).1 + (bu_num t 1 1 (bu_num t 1 3 (.inr q2)).2).1)) (Or.inl rfl) (by omega) ht (hT.tw fA (by decide)) hqq o2.1 m12 (fun _ => hDA.2.2.2.1 _ (by omega)) (hd.2.2.2.2.2.1 _ (by omega)) (fun u w' _ f g => by_D_setF hDA f g) (fun w' f r => hq w' ((fA.up (by decide) (by decide)).tr (f.up (by decide) (by decide))) r)
theorem ys_rbound {Q : bw_W → Prop} {pb : Bool} {q q1 : Nat} (ht : bm_wfT t) (hT : by_T t w) (hd : bd_wf D) (hD : by_D D w) (hw : gw_i w 50 10 = -1) (hC : by_C t q1 w) (hlt : q < q1) (hq : ∀ w', by_fr by_ll by_lf w w' → by_r t w' (bl_bound t (bm_b2 pb) q q1 D) → Q w') : bw_rv E (d + 5) mX12_readsWord [.ref 50, .int (bw_b pb), .int (nI q)] w Q := by
  have h480 := ht.1
  have hpl := hC.2.1
  have hpl1 := hpl.1
  have hp : bm_b2 pb < 2 := by unfold bm_b2; split <;> omega
  unfold bl_bound at hq
  have ok0 : bu_ok t q (.inr q1) := ⟨hpl, hlt⟩
  have o1 := bu_num_ok (m := 1) (hi := 3) ok0
  have o2 := bu_num_ok (m := 1) (hi := 1) o1.1
  have o3 := bu_num_ok (m := 1) (hi := 2) o2.1
  refine wfX12_readsWord ⟨fun v w3 => v = nI (bu_num t 1 3 (.inr q1)).1 ∧ by_fr [] by_tw w w3 ∧ by_M t w3 (bu_num t 1 3 (.inr q1)).2, ys_digU (d := d) (hi := 3) (by decide) ht hT ok0 ⟨hw, hC⟩ (fun w' f g => ⟨rfl, f, g⟩), ?_⟩
  rintro _ w3 ⟨rfl, f3, m3⟩
  refine ⟨fun v w6 => v = nI (bu_num t 1 1 (bu_num t 1 3 (.inr q1)).2).1 ∧ by_fr [] by_tw w3 w6 ∧ by_M t w6 (bu_num t 1 1 (bu_num t 1 3 (.inr q1)).2).2, ys_digU (d := d) (hi := 1) (by decide) ht (hT.tw f3 (by decide)) o1.1 m3 (fun w' f g => ⟨rfl, f, g⟩), ?_⟩
  rintro _ w6 ⟨rfl, f6, m6⟩
  have f36 := f3.tr f6
  refine ⟨fun v w9 => v = nI (bu_num t 1 2 (bu_num t 1 1 (bu_num t 1 3 (.inr q1)).2).2).1 ∧ by_fr [] by_tw w6 w9 ∧ by_M t w9 (bu_num t 1 2 (bu_num t 1 1 (bu_num t 1 3 (.inr q1)).2).2).2, ys_digU (d := d) (hi := 2) (by decide) ht (hT.tw f36 (by decide)) o2.1 m6 (fun w' f g => ⟨rfl, f, g⟩), ?_⟩
  rintro _ w9 ⟨rfl, f9, m9⟩
  have fA := f36.tr f9
  have hDA := hD.tw fA
  have es : vX12_wordAt pb (nI (bu_num t 1 3 (.inr q1)).1) (nI (bu_num t 1 1 (bu_num t 1 3 (.inr q1)).2).1) (nI (bu_num t 1 2 (bu_num t 1 1 (bu_num t 1 3 (.inr q1)).2).2).1) = nI (bl_slot t (bm_b2 pb) q1) := yv_at
  have hs : bl_slot t (bm_b2 pb) q1 < 48 := by unfold bl_slot; omega
  rw [es]
  exact ys_once (d := d) (ta := 55) (old := bm_wds (dd_X D) (bl_slot t (bm_b2 pb) q1)) (g := bd_setW D (bl_slot t (bm_b2 pb) q1)) (Or.inr rfl) hs ht (hT.tw fA (by decide)) (by omega) o3.1 m9 (fun _ => hDA.2.2.2.2.1 _ hs) (hd.2.2.2.1 _ hs) (fun u w' _ f g => by_D_setW hDA f g) (fun w' f r => hq w' ((fA.up (by decide) (by decide)).tr (f.up (by decide) (by decide))) r)
theorem ys_sort {Q : Int32 → bw_W → Prop} {q : Nat} (ht : bm_wfT t) (hC : by_C t q w) (hq : Q (if bm_sgn (bm_b t q) = 0 then (if bp_word t q = none then -1 else 0) else nI (bm_sgn (bm_b t q))) w) : bw_ri E (d + 1) mX12_sortHere [.ref 50] w Q := by
  have hb := bm_b_lt q ht
  have hcw := by_C_word hC ht
  obtain ⟨h1, hpl, h3, h4, h5, h6⟩ := id hC
  have nw : bm_lt (bm_b t q) = false → bp_word t q = none := fun z => by
    unfold bp_word
    rw [if_neg]
    rw [bm_e_f z]; omega
  refine wfX12_sortHere ?_
  cases c2 : bm_lt (bm_b t q) with
  | true =>
    have e4 := (h4 c2).1
    have hs : bm_sgn (bm_b t q) = 0 := by
      have := of_decide_eq_true c2
      unfold bm_sgn
      rw [if_neg (by omega), if_neg (by omega), if_neg (by omega), if_neg (by omega), if_neg (by omega), if_neg (by omega)]
    rw [if_pos hs] at hq
    rw [hcw]
    refine br_nf e4 ⟨fun z => ?_, fun z => ?_⟩
    · rw [if_pos (Classical.not_not.mp z)] at hq; exact hq
    · rw [if_neg z] at hq; exact hq
  | false =>
    rw [if_pos (nw c2)] at hq
    by_cases c1 : t.length ≤ q
    · have hs : bm_sgn (bm_b t q) = 0 := by rw [bm_b_out c1]; decide
      rw [if_pos hs] at hq
      rw [(h3 c1).1]
      exact br_nt (by decide) (br_f (by decide) hq)
    · cases c3 : bm_dg (bm_b t q) with
      | true =>
        have hs : bm_sgn (bm_b t q) = 0 := by
          have := of_decide_eq_true c3
          unfold bm_sgn
          rw [if_neg (by omega), if_neg (by omega), if_neg (by omega), if_neg (by omega), if_neg (by omega), if_neg (by omega)]
        rw [if_pos hs] at hq
        rw [(h5 c3).1]
        exact br_nt (by decide) (br_f (by decide) hq)
      | false =>
        obtain ⟨g4, g8, _⟩ := h6 (by omega) c2 c3
        rw [g4, g8, show (33 : Int32) = nI 33 from rfl, show (35 : Int32) = nI 35 from rfl, show (36 : Int32) = nI 36 from rfl, show (37 : Int32) = nI 37 from rfl, show (61 : Int32) = nI 61 from rfl, show (64 : Int32) = nI 64 from rfl, nI_eq (b := 33) (by omega) (by decide), nI_eq (b := 35) (by omega) (by decide), nI_eq (b := 36) (by omega) (by decide), nI_eq (b := 37) (by omega) (by decide), nI_eq (b := 61) (by omega) (by decide), nI_eq (b := 64) (by omega) (by decide)]
        refine br_nt (by decide) (br_t rfl ⟨fun z => ?_, fun z => ?_, fun z => ?_, fun z => ?_, fun z => ?_, fun z => ?_, fun a1 a2 a3 a4 a5 a6 => ?_⟩)
        · rw [z] at hq; exact hq
        · rw [z] at hq; exact hq
        · rw [z] at hq; exact hq
        · rw [z] at hq; exact hq
        · rw [z] at hq; exact hq
        · rw [z] at hq; exact hq
        · have e : bm_sgn (bm_b t q) = 0 := by unfold bm_sgn; rw [if_neg a2, if_neg a6, if_neg a4, if_neg a3, if_neg a5, if_neg a1]
          rw [if_pos e] at hq; exact hq
/-- an item of a message: only its cells have changed -/
def by_i1 (m k : Nat) (w w' : bw_W) : Prop := by_fr [57, 58, 59] by_tw w w' ∧ (∀ j, j ≠ m → gw_i w' 57 j = gw_i w 57 j) ∧ (∀ j, j / 3 ≠ k → gw_i w' 58 j = gw_i w 58 j) ∧ ∀ j, j ≠ k → gw_l w' 59 j = gw_l w 59 j
def by_ri (t : List Nat) (m k c : Nat) (w : bw_W) : Nat ⊕ ((Nat × Nat × Nat × List Nat) × Nat) → Prop
  | .inl e => gw_i w 50 10 = nI e
  | .inr (x, q) => gw_i w 50 10 = -1 ∧ by_C t q w ∧ by_itd x k w ∧ gw_i w 57 m = nI (c + 1)
theorem by_i1.rf (m k : Nat) (w : bw_W) : by_i1 m k w w := ⟨by_fr.rf _ _ _, fun _ _ => rfl, fun _ _ => rfl, fun _ _ => rfl⟩
theorem by_i1.tw {m k : Nat} {w w' w2 : bw_W} (h : by_i1 m k w w') (hf : by_fr [] by_tw w' w2) : by_i1 m k w w2 := ⟨h.1.tr (hf.up (by decide) (by decide)), fun j hj => by rw [hf.i (by decide) (by decide)]; exact h.2.1 j hj, fun j hj => by rw [hf.i (by decide) (by decide)]; exact h.2.2.1 j hj, fun j hj => by rw [hf.l (by decide) (by decide)]; exact h.2.2.2 j hj⟩
theorem by_i1.s57 {m k : Nat} {v : Int32} {w w' : bw_W} (h : by_i1 m k w w') : by_i1 m k w (sw_i w' 57 m v) := ⟨h.1.si (by decide) (by decide), fun j hj => by rw [gs_ii, if_neg (fun z => hj z.2)]; exact h.2.1 j hj, fun j hj => by rw [gs_ii, if_neg (by omega)]; exact h.2.2.1 j hj, fun j hj => by rw [gs_li]; exact h.2.2.2 j hj⟩
theorem by_i1.s58 {m k a : Nat} {v : Int32} {w w' : bw_W} (h : by_i1 m k w w') (ha : a < 3) : by_i1 m k w (sw_i w' 58 (3 * k + a) v) := ⟨h.1.si (by decide) (by decide), fun j hj => by rw [gs_ii, if_neg (by omega)]; exact h.2.1 j hj, fun j hj => by rw [gs_ii, if_neg (by omega)]; exact h.2.2.1 j hj, fun j hj => by rw [gs_li]; exact h.2.2.2 j hj⟩
theorem by_i1.s59 {m k : Nat} {v : Int64} {w w' : bw_W} (h : by_i1 m k w w') : by_i1 m k w (sw_l w' 59 k v) := ⟨h.1.sl (by decide) (by decide), fun j hj => by rw [gs_il]; exact h.2.1 j hj, fun j hj => by rw [gs_il]; exact h.2.2.1 j hj, fun j hj => by rw [gs_ll, if_neg (fun z => hj z.2)]; exact h.2.2.2 j hj⟩
theorem by_T.i1 {m k : Nat} {w' : bw_W} (hT : by_T t w) (h : by_i1 m k w w') : by_T t w' := hT.tw h.1 (by decide)
theorem ys_ritem {Q : bw_W → Prop} {q m c : Nat} (hm : m < 4) (hc : c < 8) (ht : bm_wfT t) (hT : by_T t w) (hw : gw_i w 50 10 = -1) (hC : by_C t q w) (h57 : gw_i w 57 m = nI c) (hq : ∀ w', by_i1 m (8 * m + c) w w' → by_ri t m (8 * m + c) c w' (bl_item t q) → Q w') : bw_rv E (d + 5) mX12_readItem [.ref 50, .int (nI m)] w Q := by
  have h480 := ht.1
  have hpl := hC.2.1
  have hpl1 := hpl.1
  have hb := bm_b_lt q ht
  have hsg := bm_sgn_sg (bm_b t q) hb
  have im : vp_in (nI m) 4 := bm_in hm (by decide)
  generalize hk : 8 * m + c = k at hq
  have hk32 : k < 32 := by omega
  have ik : vp_in (nI k) 32 := bm_in hk32 (by decide)
  have e8 : (8 : Int32) * nI m + nI c = nI k := by rw [nl_8, pk_mul, nI_add, hk]
  have e3 : (3 : Int32) * nI k = nI (3 * k) := by rw [nl_3, pk_mul]
  unfold bl_item at hq
  -- its end
  have fin : ∀ (w1 : bw_W) (l2 : Int32), by_i1 m k w w1 → gw_i w1 57 m = nI c → (∀ w', by_i1 m k w w' → by_fr [57] [] w1 w' → gw_i w' 57 m = nI (c + 1) → Q w') → bw_G E (d + 5) mX12_readItem 198 [some (.ref 50), some (.int (nI m)), some (.int l2), some (.int (nI k))] [] w1 (bw_qv Q) := by
    intro w1 l2 i1 g1 h
    refine wfX12_readItem_198 ⟨im, im, ?_⟩
    rw [nI_clamp (by omega), g1, nI_1]
    exact h _ i1.s57 ((by_fr.rf _ _ _).si (by decide) (by decide)) (by rw [gs_ii, if_pos ⟨rfl, rfl⟩])
  refine wfX12_readItem ⟨fun v w3 => v = (if bm_sgn (bm_b t q) = 0 then (if bp_word t q = none then -1 else 0) else nI (bm_sgn (bm_b t q))) ∧ w = w3, ys_sort (d := d + 3) ht hC ⟨rfl, rfl⟩, ?_⟩
  rintro _ _ ⟨rfl, rfl⟩
  rw [nI_clamp (by omega), h57, e8, show (8 : Int32) = nI 8 from rfl, nI_eq (by omega) (by decide)]
  by_cases c0 : bm_sgn (bm_b t q) = 0
  · rw [if_pos c0] at hq
    rw [if_pos c0]
    cases e : bp_word t q with
    | none =>
      rw [e] at hq
      rw [if_pos rfl]
      refine br_t rfl (wfX12_readItem_21 ?_)
      rw [if_neg (fun x => x hw), hC.1]
      have f1 : by_fr [] by_tw w (sw_i w 50 10 (nI q)) := (by_fr.rf _ _ _).s5 (by decide)
      exact hq _ ((by_i1.rf m k w).tw f1) (by show gw_i _ 50 10 = nI q; rw [gs_ii, if_pos ⟨rfl, rfl⟩])
    | some r =>
      obtain ⟨u, q'⟩ := r
      rw [e] at hq
      rw [if_neg (by simp)]
      refine br_f (by decide) ⟨im, br_nt (by omega) ⟨im, br_nf rfl (wfX12_readItem_55 ⟨ik, ?_⟩)⟩⟩
      rw [nI_clamp (by omega), (by_C_ws hC e).1]
      generalize hw1 : sw_l w 59 k (by_w u) = w1
      have i1 : by_i1 m k w w1 := by rw [← hw1]; exact (by_i1.rf m k w).s59
      have f1 : by_fr [59] [] w w1 := by rw [← hw1]; exact (by_fr.rf _ _ _).sl (by decide) (by decide)
      have M1 : by_M t w1 (.inr q) := by_M.s (μ := .inr q) ⟨hw, hC⟩ f1
      refine ⟨fun w4 => by_fr [] by_tf w1 w4 ∧ by_C t q' w4, ys_nextW (d := d + 2) ht (hT.i1 i1) M1.2 e (fun w' f g => ⟨f, g⟩), ?_⟩
      rintro w4 ⟨f4, c4⟩
      have f4' : by_fr [] by_tw w1 w4 := f4.up (by decide) (by decide)
      have i4 := i1.tw f4'
      rw [e3, nI_clamp (by omega)]
      refine ⟨bm_in (by omega) (by decide), br_nf rfl (wfX12_readItem_91 ?_)⟩
      rw [e3, nI_1, nl_2, nI_add, nI_clamp (by omega), nI_clamp (by omega)]
      refine ⟨bm_in (by omega) (by decide), bm_in (by omega) (by decide), br_f (by decide) (br_f (by decide) (br_nt (by decide) (wfX12_readItem_133 (br_t (by decide) ?_))))⟩
      generalize hw5 : sw_i (sw_i (sw_i w4 58 (3 * k) 0) 58 (3 * k + 1) (-1)) 58 (3 * k + 2) (-1) = w5
      have i5 : by_i1 m k w w5 := by rw [← hw5]; exact ((i4.s58 (a := 0) (by decide)).s58 (by decide)).s58 (by decide)
      have f5 : by_fr [58] [] w4 w5 := by rw [← hw5]; exact (((by_fr.rf _ _ _).si (by decide) (by decide)).si (by decide) (by decide)).si (by decide) (by decide)
      have M5 : by_M t w5 (.inr q') := by_M.s (μ := .inr q') ⟨by rw [f4.i5 (by decide)]; exact M1.1, c4⟩ f5
      refine fin w5 _ i5 (by rw [f5.i (by decide) (by decide), f4.i (by decide) (by decide), f1.i (by decide) (by decide)]; exact h57) (fun w' i' f' g' => hq w' i' ?_)
      have M' := M5.s f'
      refine ⟨M'.1, M'.2, ⟨?_, fun _ => ?_, fun z => absurd rfl z, fun z => absurd rfl z⟩, g'⟩
      · rw [f'.i (by decide) (by decide), ← hw5, gs_ii, if_neg (by omega), gs_ii, if_neg (by omega), gs_ii, if_pos ⟨rfl, rfl⟩]; rfl
      · rw [f'.l (by decide) (by decide), f5.l (by decide) (by decide), f4.l (by decide) (by decide), ← hw1, gs_ll, if_pos ⟨rfl, rfl⟩]
  · rw [if_neg c0] at hq
    rw [if_neg c0]
    have hlt : q < t.length := by
      rcases Nat.lt_or_ge q t.length with z | z
      · exact z
      · rw [bm_b_out z] at c0; exact absurd rfl c0
    generalize hs : bm_sgn (bm_b t q) = s at hq c0 hsg ⊢
    have hs6 := hsg.2.1
    have nlt : bm_lt (bm_b t q) = false := by
      cases x : bm_lt (bm_b t q) with
      | false => rfl
      | true =>
        have := of_decide_eq_true x
        exfalso
        apply c0
        rw [← hs]
        unfold bm_sgn
        rw [if_neg (by omega), if_neg (by omega), if_neg (by omega), if_neg (by omega), if_neg (by omega), if_neg (by omega)]
    have ndg : bm_dg (bm_b t q) = false := by
      cases x : bm_dg (bm_b t q) with
      | false => rfl
      | true =>
        have := of_decide_eq_true x
        exfalso
        apply c0
        rw [← hs]
        unfold bm_sgn
        rw [if_neg (by omega), if_neg (by omega), if_neg (by omega), if_neg (by omega), if_neg (by omega), if_neg (by omega)]
    have g3 := (hC.2.2.2.2.2 hlt nlt ndg).2.2
    have s0 : ¬ nI s = 0 := fun z => c0 ((nI_z (by omega)).mp z)
    refine br_f (nI_ne_m1 (by omega)) ⟨im, br_nt (by omega) ⟨im, br_nt s0 (wfX12_readItem_55 ⟨ik, ?_⟩)⟩⟩
    rw [nI_clamp (by omega)]
    generalize hw1 : sw_l w 59 k 0 = w1
    have i1 : by_i1 m k w w1 := by rw [← hw1]; exact (by_i1.rf m k w).s59
    have f1 : by_fr [59] [] w w1 := by rw [← hw1]; exact (by_fr.rf _ _ _).sl (by decide) (by decide)
    refine ⟨fun w4 => by_fr [] by_tf w1 w4 ∧ by_C t (bm_sk t (q + 1)) w4, ys_next (d := d + 2) (p := q + 1) ht (hT.i1 i1) (by rw [f1.i5 (by decide)]; exact g3) hlt (fun w' f g => ⟨f, g⟩), ?_⟩
    rintro w4 ⟨f4, c4⟩
    have f4' : by_fr [] by_tw w1 w4 := f4.up (by decide) (by decide)
    have i4 := i1.tw f4'
    have M4 : by_M t w4 (.inr (bm_sk t (q + 1))) := ⟨by rw [f4.i5 (by decide), f1.i5 (by decide)]; exact hw, c4⟩
    have hge : q + 1 ≤ bm_sk t (q + 1) := bm_e_ge (P := bm_bl) rfl hlt
    have ok0 : bu_ok t q (.inr (bm_sk t (q + 1))) := ⟨bm_pl_sk hlt, hge⟩
    have o1 := bu_num_ok (m := 1) (hi := 2) ok0
    rw [e3, nI_clamp (by omega)]
    have g57 : gw_i w4 57 m = nI c := by rw [f4.i (by decide) (by decide), f1.i (by decide) (by decide)]; exact h57
    generalize hw5 : sw_i w4 58 (3 * k) (nI s) = w5
    have i5 : by_i1 m k w w5 := by rw [← hw5]; exact i4.s58 (a := 0) (by decide)
    have f5 : by_fr [58] [] w4 w5 := by rw [← hw5]; exact (by_fr.rf _ _ _).si (by decide) (by decide)
    have M5 := M4.s f5
    refine ⟨bm_in (by omega) (by decide), br_nt s0 ⟨fun v w8 => v = nI (bu_num t 1 2 (.inr (bm_sk t (q + 1)))).1 ∧ by_fr [] by_tw w5 w8 ∧ by_M t w8 (bu_num t 1 2 (.inr (bm_sk t (q + 1)))).2, ys_digU (d := d) (hi := 2) (by decide) ht (hT.i1 i5) ok0 M5 (fun w' f g => ⟨rfl, f, g⟩), ?_⟩⟩
    rintro _ w8 ⟨rfl, f8, m8⟩
    generalize hμ : bu_num t 1 2 (.inr (bm_sk t (q + 1))) = μ1 at hq m8 o1 ⊢
    have i8 := i5.tw f8
    refine wfX12_readItem_91 ?_
    rw [e3, nI_1, nl_2, nI_add, nI_clamp (by omega), nI_clamp (by omega)]
    generalize hw9 : sw_i (sw_i w8 58 (3 * k + 1) (nI μ1.1)) 58 (3 * k + 2) (-1) = w9
    have i9 : by_i1 m k w w9 := by rw [← hw9]; exact (i8.s58 (by decide)).s58 (by decide)
    have f9 : by_fr [58] [] w8 w9 := by rw [← hw9]; exact ((by_fr.rf _ _ _).si (by decide) (by decide)).si (by decide) (by decide)
    have M9 := m8.s f9
    have g9 : gw_i w9 57 m = nI c := by rw [f9.i (by decide) (by decide), f8.i (by decide) (by decide), f5.i (by decide) (by decide)]; exact g57
    have s9 : gw_i w9 58 (3 * k) = nI s := by rw [← hw9, gs_ii, if_neg (by omega), gs_ii, if_neg (by omega), f8.i (by decide) (by decide), ← hw5, gs_ii, if_pos ⟨rfl, rfl⟩]
    have h9 : gw_i w9 58 (3 * k + 1) = nI μ1.1 := by rw [← hw9, gs_ii, if_neg (by omega), gs_ii, if_pos ⟨rfl, rfl⟩]
    have js : ∀ v, v < 2 ^ 31 → (nI s = nI v ↔ s = v) := fun v hv => nI_eq (by omega) hv
    -- the case of a form, an article, a pronoun; two holes
    have two : ∀ (hi : Nat) (l2 : Int32), hi < 1000 → (∀ w', by_i1 m k w w' → (match μ1.2 with | .inl e => gw_i w' 50 10 = nI e | .inr q2 => match bp_num t q2 1 hi with | none => gw_i w' 50 10 = nI q2 | some (v, q3) => gw_i w' 50 10 = -1 ∧ by_C t q3 w' ∧ gw_i w' 58 (3 * k) = nI s ∧ gw_i w' 58 (3 * k + 1) = nI μ1.1 ∧ gw_i w' 58 (3 * k + 2) = nI v ∧ gw_i w' 57 m = nI (c + 1)) → Q w') → (∃ Q1 : Int32 → bw_W → Prop, bw_ri E (d + 4) mX12_digit [.ref 50, .int (nI hi)] w9 Q1 ∧ ∀ v2 w3, Q1 v2 w3 → (vp_in ((3 * nI k) + 2) 96) ∧ bw_G E (d + 5) mX12_readItem 198 [some (.ref 50), some (.int (nI m)), some (.int l2), some (.int (nI k))] [] (sw_i w3 58 (((3 * nI k) + 2).toNatClampNeg) v2) (bw_qv Q)) := by
      intro hi l2 hhi h
      refine ⟨fun v w12 => v = nI (bu_num t 1 hi μ1.2).1 ∧ by_fr [] by_tw w9 w12 ∧ by_M t w12 (bu_num t 1 hi μ1.2).2, ys_digU (d := d) hhi ht (hT.i1 i9) o1.1 M9 (fun w' f g => ⟨rfl, f, g⟩), ?_⟩
      rintro _ w12 ⟨rfl, f12, m12⟩
      rw [e3, nl_2, nI_add, nI_clamp (by omega)]
      refine ⟨bm_in (by omega) (by decide), ?_⟩
      have i12 := i9.tw f12
      have f13 : by_fr [58] [] w12 (sw_i w12 58 (3 * k + 2) (nI (bu_num t 1 hi μ1.2).1)) := (by_fr.rf _ _ _).si (by decide) (by decide)
      refine fin _ _ (i12.s58 (by decide)) (by rw [f13.i (by decide) (by decide), f12.i (by decide) (by decide)]; exact g9) (fun w' i' f' g' => h w' i' ?_)
      have M' := (m12.s f13).s f'
      cases e : μ1.2 with
      | inl e0 => rw [e] at M'; exact M'
      | inr q2 =>
        rw [e] at M' f'
        dsimp only
        cases e2 : bp_num t q2 1 hi with
        | none => rw [bu_num_n e2] at M'; exact M'
        | some r =>
          obtain ⟨v, q3⟩ := r
          rw [bu_num_s e2] at M' f'
          refine ⟨M'.1, M'.2, ?_, ?_, ?_, g'⟩
          · rw [f'.i (by decide) (by decide), gs_ii, if_neg (by omega), f12.i (by decide) (by decide)]; exact s9
          · rw [f'.i (by decide) (by decide), gs_ii, if_neg (by omega), f12.i (by decide) (by decide)]; exact h9
          · rw [f'.i (by decide) (by decide), gs_ii, if_pos ⟨rfl, rfl⟩]
    refine ⟨bm_in (by omega) (by decide), bm_in (by omega) (by decide), ?_⟩
    have j5 : nI s < 5 ↔ s < 5 := nI_ltI (b := 5) (by omega) (by decide)
    have three : s = 1 ∨ s = 2 ∨ s = 3 → bw_G E (d + 5) mX12_readItem 118 [some (.ref 50), some (.int (nI m)), some (.int (nI s)), some (.int (nI k))] [] w9 (bw_qv Q) := fun h123 => by
      refine wfX12_readItem_118 ?_
      obtain ⟨Q1, a1, a2⟩ := two 3 (nI s) (by decide) (fun w' i' h => by
        refine hq w' i' ?_
        cases e : μ1.2 with
        | inl e0 => rw [e] at h; exact h
        | inr q2 =>
          rw [e] at h
          dsimp only at h ⊢
          rw [if_neg (by omega), if_neg (by omega)]
          cases e2 : bp_num t q2 1 3 with
          | none => rw [e2] at h; exact h
          | some r =>
            obtain ⟨v, q3⟩ := r
            rw [e2] at h
            dsimp only at h ⊢
            rw [if_neg (by omega)]
            exact ⟨h.1, h.2.1, ⟨h.2.2.1, fun z => absurd z c0, fun _ => h.2.2.2.1, fun _ _ => h.2.2.2.2.1⟩, h.2.2.2.2.2⟩)
      exact ⟨Q1, a1, fun v2 w3 hv => ⟨(a2 v2 w3 hv).1, wfX12_readItem_133 (br_t (j5.mpr (by omega)) (a2 v2 w3 hv).2)⟩⟩
    refine ⟨fun z => three (Or.inl ((js 1 (by decide)).mp z)), fun z1 => ⟨fun z => three (Or.inr (Or.inl ((js 2 (by decide)).mp z))), fun z2 => ⟨fun z3 => ?_, fun z => three (Or.inr (Or.inr ((js 3 (by decide)).mp z)))⟩⟩⟩
    have n1 : s ≠ 1 := fun x => z1 ((js 1 (by decide)).mpr x)
    have n2 : s ≠ 2 := fun x => z2 ((js 2 (by decide)).mpr x)
    have n3 : s ≠ 3 := fun x => z3 ((js 3 (by decide)).mpr x)
    by_cases n4 : s = 4
    · refine wfX12_readItem_133 (br_t (j5.mpr (by omega)) (fin w9 _ i9 g9 (fun w' i' f' g' => hq w' i' ?_)))
      have M' := M9.s f'
      cases e : μ1.2 with
      | inl e0 => rw [e] at M'; exact M'
      | inr q2 =>
        rw [e] at M'
        dsimp only
        rw [if_pos n4]
        refine ⟨M'.1, M'.2, ⟨?_, fun z => (by cases z), fun _ => ?_, fun _ z => absurd rfl z⟩, g'⟩
        · rw [f'.i (by decide) (by decide), s9, n4]
        · rw [f'.i (by decide) (by decide)]; exact h9
    have n56 : s = 5 ∨ s = 6 := by omega
    have goes : (∀ q2 q3, μ1.2 = .inr q2 → bp_num t q2 1 2 ≠ some (μ1.1, q3)) → bw_G E (d + 5) mX12_readItem 183 [some (.ref 50), some (.int (nI m)), some (.int (nI s)), some (.int (nI k))] [] w9 (bw_qv Q) := fun hne => by
      refine wfX12_readItem_183 ?_
      exact two 2 (nI s) (by decide) (fun w' i' h => by
        refine hq w' i' ?_
        cases e : μ1.2 with
        | inl e0 => rw [e] at h; exact h
        | inr q2 =>
          rw [e] at h
          dsimp only at h ⊢
          rw [if_neg n4, if_pos n56]
          cases e2 : bp_num t q2 1 2 with
          | none => rw [e2] at h; exact h
          | some r =>
            obtain ⟨v, q3⟩ := r
            rw [e2] at h
            dsimp only at h ⊢
            rw [if_neg (fun x => hne q2 q3 e (by rw [e2, x.2]))]
            exact ⟨h.1, h.2.1, ⟨h.2.2.1, fun z => absurd z c0, fun _ => h.2.2.2.1, fun _ _ => h.2.2.2.2.1⟩, h.2.2.2.2.2⟩)
    refine wfX12_readItem_133 (br_f (fun z => by have := j5.mp z; omega) ?_)
    cases e : μ1.2 with
    | inl e0 =>
      rw [e] at M9 o1
      have he : e0 ≤ t.length := o1.1
      exact br_nt (by_bad10 (w := w9) (e := e0) (by omega) M9) (goes (fun q2 q3 z => by rw [e] at z; cases z))
    | inr q2 =>
      rw [e] at M9 o1
      have hC9 := M9.2
      have hp2 : bm_pl t q2 := o1.1.1
      obtain ⟨k1, k2, k3, k4, k5, k6⟩ := id hC9
      have gx : ∀ q', bp_num t q2 1 2 = some (μ1.1, q') → (gw_i w9 50 4 = 2 ∧ gw_i w9 50 7 = 1 ∧ gw_i w9 50 6 = nI μ1.1) := fun q' h => by
        obtain ⟨b1, b2, b3, b4⟩ := bp_num_dg hp2.1 h
        have b5 := bp_num_some hp2.1 h
        have he : q2 < bm_e bm_dg t q2 := by
          unfold bp_num at h
          split at h
          · rename_i x; exact x.1
          · cases h
        obtain ⟨c1, c2, c3, c4⟩ := k5 b1
        refine ⟨c1, ?_, ?_⟩
        · rw [c2, show bm_e bm_dg t q2 - q2 = 1 by omega]; rfl
        · rw [c4 (by omega), ← b2]
      have gy : gw_i w9 50 4 = 2 → gw_i w9 50 7 = 1 → gw_i w9 50 6 = nI μ1.1 → ∃ q', bp_num t q2 1 2 = some (μ1.1, q') := fun a1 a2 a3 => by
        have dg : bm_dg (bm_b t q2) = true := by
          cases x : bm_dg (bm_b t q2) with
          | true => rfl
          | false =>
            exfalso
            by_cases y : t.length ≤ q2
            · rw [(k3 y).1] at a1; exact absurd a1 (by decide)
            · cases y2 : bm_lt (bm_b t q2) with
              | true => rw [(k4 y2).1] at a1; exact absurd a1 (by decide)
              | false => rw [(k6 (by omega) y2 x).1] at a1; exact absurd a1 (by decide)
        obtain ⟨c1, c2, c3, c4⟩ := k5 dg
        have hle := bm_e_le (P := bm_dg) rfl hp2.1
        have e1 : bm_e bm_dg t q2 - q2 = 1 := by
          rw [c2] at a2
          exact (nI_eq (b := 1) (by omega) (by decide)).mp a2
        have d1 := c4 (by omega)
        rw [d1, e1] at a3
        have dv9 : bm_dv t q2 1 < 10 ^ 1 := bm_dv_lt hp2.1 1 (by omega)
        have ev : bm_dv t q2 1 = μ1.1 := (nI_eq (by omega) (by have := o1.2; omega)).mp a3
        refine ⟨bm_sk t (bm_e bm_dg t q2), ?_⟩
        unfold bp_num
        rw [e1, ev, if_pos ⟨by omega, by omega, o1.2⟩]
      have no : (¬ (gw_i w9 50 4 = 2 ∧ gw_i w9 50 7 = 1 ∧ gw_i w9 50 6 = nI μ1.1)) → bw_G E (d + 5) mX12_readItem 183 [some (.ref 50), some (.int (nI m)), some (.int (nI s)), some (.int (nI k))] [] w9 (bw_qv Q) := fun hn => goes (fun q2' q3 z h => by
        rw [e] at z
        cases z
        exact hn (gx q3 h))
      refine br_nf M9.1 ⟨fun z => no (fun x => z x.1), fun z4 => ⟨fun z => no (fun x => z x.2.1), fun z7 => ?_⟩⟩
      rw [e3, nI_1, nI_clamp (by omega), h9]
      refine ⟨bm_in (by omega) (by decide), fun z => no (fun x => z x.2.2), fun z6 => ?_⟩
      obtain ⟨q3, hb2⟩ := gy z4 z7 z6
      rw [if_neg (fun x => x M9.1), k1]
      have f14 : by_fr [] by_tw w9 (sw_i w9 50 10 (nI q2)) := (by_fr.rf _ _ _).s5 (by decide)
      have e14 : gw_i (sw_i w9 50 10 (nI q2)) 50 10 = nI q2 := by rw [gs_ii, if_pos ⟨rfl, rfl⟩]
      have hp21 := hp2.1
      have hb14 := by_bad10 (w := sw_i w9 50 10 (nI q2)) (e := q2) (by omega) e14
      refine wfX12_readItem_183 ⟨fun v w15 => v = 0 ∧ sw_i w9 50 10 (nI q2) = w15, ys_dig0 (d := d) hb14 ⟨rfl, rfl⟩, ?_⟩
      rintro _ _ ⟨rfl, rfl⟩
      rw [e3, nl_2, nI_add, nI_clamp (by omega)]
      refine ⟨bm_in (by omega) (by decide), ?_⟩
      have f16 : by_fr [58] [] (sw_i w9 50 10 (nI q2)) (sw_i (sw_i w9 50 10 (nI q2)) 58 (3 * k + 2) 0) := (by_fr.rf _ _ _).si (by decide) (by decide)
      refine fin _ _ ((i9.tw f14).s58 (by decide)) (by rw [f16.i (by decide) (by decide), f14.i (by decide) (by decide)]; exact g9) (fun w' i' f' g' => hq w' i' ?_)
      rw [e]
      dsimp only
      rw [if_neg n4, if_pos n56, hb2]
      dsimp only
      rw [if_pos ⟨n56, rfl⟩]
      show gw_i w' 50 10 = nI q2
      rw [f'.i5 (by decide), f16.i5 (by decide)]; exact e14
end MLEX2
