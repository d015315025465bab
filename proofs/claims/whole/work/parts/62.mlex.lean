/-! the reference reads a lexicon -/
def by_itd (q : Nat × Nat × Nat × List Nat) (k : Nat) (w : bw_W) : Prop := gw_i w 58 (3 * k) = nI q.1 ∧ (q.1 = 0 → gw_l w 59 k = by_w q.2.2.2) ∧ (q.1 ≠ 0 → gw_i w 58 (3 * k + 1) = nI q.2.1) ∧ (q.1 ≠ 0 → q.1 ≠ 4 → gw_i w 58 (3 * k + 2) = nI q.2.2.1)
def by_D (D : bd_D) (w : bw_W) : Prop := gw_i w 50 20 = nI (bm_nn (dd_X D)) ∧ gw_i w 50 21 = nI (bm_nm (dd_X D)) ∧ (∀ i, i < bm_nn (dd_X D) → gw_l w 52 i = by_w (bm_nam (dd_X D) i) ∧ gw_i w 53 i = nI (bm_knd (dd_X D) i)) ∧ (∀ j, j < 8 * bm_nn (dd_X D) → gw_l w 54 j = by_w (dd_f D j)) ∧ (∀ j, j < 48 → gw_l w 55 j = by_w (bm_wds (dd_X D) j)) ∧ ∀ m, m < bm_nm (dd_X D) → gw_l w 56 m = by_w (dd_t D m) ∧ gw_i w 57 m = nI (bm_cnt (dd_X D) m) ∧ ∀ i, i < bm_cnt (dd_X D) m → by_itd (bm_it (dd_X D) (8 * m + i)) (8 * m + i) w
abbrev by_ll : List Nat := [52, 53, 54, 55, 56, 57, 58, 59]
abbrev by_lf : List Nat := [10, 3, 4, 5, 6, 7, 8, 9, 11, 20, 21]
def by_r (t : List Nat) (w : bw_W) : Nat ⊕ (bd_D × Nat) → Prop
  | .inl e => gw_i w 50 10 = nI e
  | .inr (D, q) => gw_i w 50 10 = -1 ∧ by_C t q w ∧ by_D D w
theorem by_itd.fr {q : Nat × Nat × Nat × List Nat} {k : Nat} {w w' : bw_W} {S F : List Nat} (h : by_itd q k w) (hf : by_fr S F w w') (h1 : 58 ∉ S) (h2 : 59 ∉ S) : by_itd q k w' := by
  unfold by_itd
  rw [hf.i h1 (by decide), hf.l h2 (by decide), hf.i h1 (by decide), hf.i h1 (by decide)]; exact h
theorem by_D.fr {D : bd_D} {w w' : bw_W} {S F : List Nat} (h : by_D D w) (hf : by_fr S F w w') (hs : ∀ c, c ∈ S → c < 52 ∨ 59 < c) (h1 : 20 ∉ F) (h2 : 21 ∉ F) : by_D D w' := by
  have nn : ∀ c, 52 ≤ c → c ≤ 59 → c ∉ S := fun c a b q => by have := hs c q; omega
  unfold by_D
  rw [hf.i5 h1, hf.i5 h2]
  refine ⟨h.1, h.2.1, fun i hi => ?_, fun j hj => ?_, fun j hj => ?_, fun m hm => ⟨?_, ?_, fun i hi => ?_⟩⟩
  · rw [hf.l (nn 52 (by omega) (by omega)) (by decide), hf.i (nn 53 (by omega) (by omega)) (by decide)]; exact h.2.2.1 i hi
  · rw [hf.l (nn 54 (by omega) (by omega)) (by decide)]; exact h.2.2.2.1 j hj
  · rw [hf.l (nn 55 (by omega) (by omega)) (by decide)]; exact h.2.2.2.2.1 j hj
  · rw [hf.l (nn 56 (by omega) (by omega)) (by decide)]; exact (h.2.2.2.2.2 m hm).1
  · rw [hf.i (nn 57 (by omega) (by omega)) (by decide)]; exact (h.2.2.2.2.2 m hm).2.1
  · exact ((h.2.2.2.2.2 m hm).2.2 i hi).fr hf (nn 58 (by omega) (by omega)) (nn 59 (by omega) (by omega))
section MLEX
variable {E : bw_E} {d : Nat} {w : bw_W} {t : List Nat} {D : bd_D}
theorem by_D.tw {w' : bw_W} (h : by_D D w) (hf : by_fr [] by_tw w w') : by_D D w' := h.fr hf (fun c q => by cases q) (by decide) (by decide)
theorem yw_isU {q : Nat} {v : List Nat} {c : Int64} (hC : by_C t q w) (ht : bm_wfT t) (hw : gw_i w 50 10 = -1) (hv : bm_ok v) (hc : c = by_w v) : (((gw_i w 50 10) = (-1)) ∧ ((((gw_i w 50 4) = 1) ∧ (¬ (8 < (gw_i w 50 9)))) ∧ ((gw_l w 50 11) = c))) ↔ ∃ q', bp_word t q = some (v, q') := by
  rw [by_C_word hC ht]
  constructor
  · rintro ⟨_, h1, h2⟩
    cases e : bp_word t q with
    | none => exact absurd e h1
    | some r =>
      obtain ⟨u, q'⟩ := r
      have := (by_C_ws hC e).1
      rw [h2, hc] at this
      have o := bp_word_some hC.2.1.1 e
      have eu := (by_w_eq hv o.1).mp this
      exact ⟨q', by rw [eu]⟩
  · rintro ⟨q', e⟩
    exact ⟨hw, by rw [e]; simp, by rw [hc]; exact (by_C_ws hC e).1⟩
/-- which name stands there -/
def bd_at (t : List Nat) (q : Nat) (f : Nat → List Nat) (n : Nat) : Option Nat := match bp_word t q with
  | none => none
  | some (u, _) => bd_fi f u n 0
def bd_oI : Option Nat → Int32
  | none => -1
  | some i => nI i
theorem ys_nhere {Q : Int32 → bw_W → Prop} {q : Nat} (ht : bm_wfT t) (hw : gw_i w 50 10 = -1) (hC : by_C t q w) (hd : bd_wf D) (hD : by_D D w) (hq : Q (bd_oI (bd_at t q (bm_nam (dd_X D)) (bm_nn (dd_X D)))) w) : bw_ri E (d + 2) mX12_nounHere [.ref 50] w Q := by
  have h6 := hd.1
  unfold bd_at at hq
  have key : ∀ k i, i + k = bm_nn (dd_X D) → Q (bd_oI (match bp_word t q with | none => none | some (u, _) => bd_fi (bm_nam (dd_X D)) u k i)) w → bw_G E (d + 2) mX12_nounHere 2 [some (.ref 50), some (.int (nI i))] [] w (bw_qi Q) := by
    intro k
    induction k with
    | zero =>
      intro i h h2
      refine wfX12_nounHere_2 ?_
      rw [hD.1]
      refine br_t (nI_le (by omega) (by omega)) ?_
      cases e : bp_word t q with
      | none => rw [e] at h2; exact h2
      | some r => obtain ⟨u, q'⟩ := r; rw [e] at h2; exact h2
    | succ k ih =>
      intro i h h2
      refine wfX12_nounHere_2 ?_
      rw [hD.1]
      refine br_f (nI_ge (by omega) (by omega)) ⟨bm_in (by omega) (by decide), ?_⟩
      rw [nI_clamp (by omega), yw_isU hC ht hw (hd.2.2.1 i (by omega)).1 (hD.2.2.1 i (by omega)).1, nI_1]
      refine ⟨fun z => ih (i + 1) (by omega) ?_, fun z => ?_⟩
      · cases e : bp_word t q with
        | none => rw [e] at h2; exact h2
        | some r =>
          obtain ⟨u, q'⟩ := r
          rw [e] at h2
          dsimp only at h2
          rw [bd_fi, if_neg (fun x => z ⟨q', by rw [e, x]⟩)] at h2
          exact h2
      · obtain ⟨q', e⟩ := z
        rw [e] at h2
        dsimp only at h2
        rw [bd_fi, if_pos rfl] at h2
        exact h2
  exact wfX12_nounHere (key _ 0 (by omega) hq)
theorem ys_nhere0 {Q : Int32 → bw_W → Prop} (hw : gw_i w 50 10 ≠ -1) (hd : bd_wf D) (hD : by_D D w) (hq : Q (-1) w) : bw_ri E (d + 2) mX12_nounHere [.ref 50] w Q := by
  have h6 := hd.1
  have key : ∀ k i, i + k = bm_nn (dd_X D) → bw_G E (d + 2) mX12_nounHere 2 [some (.ref 50), some (.int (nI i))] [] w (bw_qi Q) := by
    intro k
    induction k with
    | zero =>
      intro i h
      refine wfX12_nounHere_2 ?_
      rw [hD.1]
      exact br_t (nI_le (by omega) (by omega)) hq
    | succ k ih =>
      intro i h
      refine wfX12_nounHere_2 ?_
      rw [hD.1]
      refine br_f (nI_ge (by omega) (by omega)) ⟨bm_in (by omega) (by decide), ?_⟩
      rw [nI_1]
      exact br_nt (fun z => hw z.1) (ih (i + 1) (by omega))
  exact wfX12_nounHere (key (bm_nn (dd_X D)) 0 (by omega))
theorem ys_there {Q : Bool → bw_W → Prop} {q : Nat} (ht : bm_wfT t) (hw : gw_i w 50 10 = -1) (hC : by_C t q w) (hd : bd_wf D) (hD : by_D D w) (hq : Q (bd_at t q (dd_t D) (bm_nm (dd_X D))).isSome w) : bw_rb E (d + 2) mX12_isTitleHere [.ref 50] w Q := by
  have h6 := hd.2.1
  unfold bd_at at hq
  have key : ∀ k i, i + k = bm_nm (dd_X D) → Q (match bp_word t q with | none => none | some (u, _) => bd_fi (dd_t D) u k i).isSome w → bw_G E (d + 2) mX12_isTitleHere 2 [some (.ref 50), some (.int (nI i))] [] w (bw_qb Q) := by
    intro k
    induction k with
    | zero =>
      intro i h h2
      refine wfX12_isTitleHere_2 ?_
      rw [hD.2.1]
      refine br_t (nI_le (by omega) (by omega)) ?_
      cases e : bp_word t q with
      | none => rw [e] at h2; exact h2
      | some r => obtain ⟨u, q'⟩ := r; rw [e] at h2; exact h2
    | succ k ih =>
      intro i h h2
      refine wfX12_isTitleHere_2 ?_
      rw [hD.2.1]
      refine br_f (nI_ge (by omega) (by omega)) ⟨bm_in (by omega) (by decide), ?_⟩
      rw [nI_clamp (by omega), yw_isU hC ht hw (hd.2.2.2.2.2.2.2 i (by omega)) (hD.2.2.2.2.2 i (by omega)).1, nI_1]
      refine ⟨fun z => ih (i + 1) (by omega) ?_, fun z => ?_⟩
      · cases e : bp_word t q with
        | none => rw [e] at h2; exact h2
        | some r =>
          obtain ⟨u, q'⟩ := r
          rw [e] at h2
          dsimp only at h2
          rw [bd_fi, if_neg (fun x => z ⟨q', by rw [e, x]⟩)] at h2
          exact h2
      · obtain ⟨q', e⟩ := z
        rw [e] at h2
        dsimp only at h2
        rw [bd_fi, if_pos rfl] at h2
        exact h2
  exact wfX12_isTitleHere (key _ 0 (by omega) hq)
theorem ys_there0 {Q : Bool → bw_W → Prop} (hw : gw_i w 50 10 ≠ -1) (hd : bd_wf D) (hD : by_D D w) (hq : Q false w) : bw_rb E (d + 2) mX12_isTitleHere [.ref 50] w Q := by
  have h6 := hd.2.1
  have key : ∀ k i, i + k = bm_nm (dd_X D) → bw_G E (d + 2) mX12_isTitleHere 2 [some (.ref 50), some (.int (nI i))] [] w (bw_qb Q) := by
    intro k
    induction k with
    | zero =>
      intro i h
      refine wfX12_isTitleHere_2 ?_
      rw [hD.2.1]
      exact br_t (nI_le (by omega) (by omega)) hq
    | succ k ih =>
      intro i h
      refine wfX12_isTitleHere_2 ?_
      rw [hD.2.1]
      refine br_f (nI_ge (by omega) (by omega)) ⟨bm_in (by omega) (by decide), ?_⟩
      rw [nI_1]
      exact br_nt (fun z => hw z.1) (ih (i + 1) (by omega))
  exact wfX12_isTitleHere (key (bm_nm (dd_X D)) 0 (by omega))
theorem by_bad10 {e : Nat} (he : e ≤ 480) (h : gw_i w 50 10 = nI e) : gw_i w 50 10 ≠ -1 := by rw [h]; exact nI_ne_m1 (by omega)
theorem ys_rnoun {Q : bw_W → Prop} {q q1 : Nat} (ht : bm_wfT t) (hT : by_T t w) (hd : bd_wf D) (hD : by_D D w) (hw : gw_i w 50 10 = -1) (hC : by_C t q1 w) (hqq : q ≤ t.length) (hq : ∀ w', by_fr by_ll by_lf w w' → by_r t w' (bl_noun t q q1 D) → Q w') : bw_rv E (d + 5) mX12_readNoun [.ref 50, .int (nI q)] w Q := by
  have h6 := hd.1
  have h480 := ht.1
  have hpl := hC.2.1
  have hpl1 := hpl.1
  unfold bl_noun at hq
  refine wfX12_readNoun ?_
  -- what comes behind a fault
  have bad : ∀ (w1 : bw_W) (e : Nat), e ≤ 480 → gw_i w1 50 10 = nI e → (Q w1) → (∃ Q4 : Int64 → bw_W → Prop, bw_rl E (d + 4) mX12_anyWord [.ref 50] w1 Q4 ∧ ∀ v5 w6, Q4 v5 w6 → (∃ Q7 : Int32 → bw_W → Prop, bw_ri E (d + 4) mX12_digit [.ref 50, .int 2] w6 Q7 ∧ ∀ v8 w9, Q7 v8 w9 → ((¬ (gw_i w9 50 10) = (-1) → Q w9) ∧ ((gw_i w9 50 10) = (-1) → (vp_in (gw_i w9 50 20) 6) ∧ (vp_in (gw_i w9 50 20) 6) ∧ bw_G E (d + 5) mX12_readNoun 70 [some (.ref 50), some (.int (nI q)), some (.long v5), none, some (.int v8), some (.int 0)] [] (sw_i (sw_l w9 52 ((gw_i w9 50 20).toNatClampNeg) v5) 53 ((gw_i w9 50 20).toNatClampNeg) v8) (bw_qv Q))))) := by
    intro w1 e he h1 hQ
    have hb := by_bad10 he h1
    refine ⟨fun v w6 => w1 = w6, ys_any0 (d := d + 1) hb rfl, ?_⟩
    rintro _ _ rfl
    refine ⟨fun v w9 => w1 = w9, ys_dig0 (d := d) hb rfl, ?_⟩
    rintro _ _ rfl
    exact br_nt hb hQ
  rw [hD.1, show (6 : Int32) = nI 6 from rfl, nI_eq (by omega) (by decide)]
  refine ⟨fun z => ?_, fun z => ?_⟩
  rotate_left
  · rw [if_pos z] at hq
    rw [if_neg (fun x => x hw)]
    have f1 : by_fr [] by_tw w (sw_i w 50 10 (nI q)) := (by_fr.rf _ _ _).s5 (by decide)
    have e1 : gw_i (sw_i w 50 10 (nI q)) 50 10 = nI q := by rw [gs_ii, if_pos ⟨rfl, rfl⟩]
    have hb := by_bad10 (w := sw_i w 50 10 (nI q)) (e := q) (by omega) e1
    refine ⟨fun v w22 => v = -1 ∧ sw_i w 50 10 (nI q) = w22, ys_nhere0 (d := d + 2) hb hd (hD.tw f1) ⟨rfl, rfl⟩, ?_⟩
    rintro _ _ ⟨rfl, rfl⟩
    exact br_t rfl (bad _ q (by omega) e1 (hq _ (f1.up (by decide) (by decide)) e1))
  rw [if_neg z] at hq
  refine ⟨fun v w3 => v = bd_oI (bd_at t q1 (bm_nam (dd_X D)) (bm_nn (dd_X D))) ∧ w = w3, ys_nhere (d := d + 2) ht hw hC hd hD ⟨rfl, rfl⟩, ?_⟩
  rintro _ _ ⟨rfl, rfl⟩
  unfold bd_at
  cases e : bp_word t q1 with
  | some r =>
    obtain ⟨u, q2⟩ := r
    have o := bp_word_some hpl1 e
    rw [e] at hq
    dsimp only at hq ⊢
    cases e2 : bd_fi (bm_nam (dd_X D)) u (bm_nn (dd_X D)) 0 with
    | some i =>
      have hi := bd_fi_some e2
      rw [e2] at hq
      refine br_f (nI_ne_m1 (n := i) (by omega)) ?_
      rw [if_neg (fun x => x hw), hC.1]
      have f1 : by_fr [] by_tw w (sw_i w 50 10 (nI q1)) := (by_fr.rf _ _ _).s5 (by decide)
      have e1 : gw_i (sw_i w 50 10 (nI q1)) 50 10 = nI q1 := by rw [gs_ii, if_pos ⟨rfl, rfl⟩]
      exact bad _ q1 (by omega) e1 (hq _ (f1.up (by decide) (by decide)) e1)
    | none =>
      rw [e2] at hq
      dsimp only at hq
      have ok0 : bu_ok t q1 (.inr q2) := ⟨bp_word_pl hpl1 e, o.2.2.2.2.2.2.2⟩
      refine br_t rfl ⟨fun v w6 => v = by_w u ∧ by_fr [] by_tw w w6 ∧ by_M t w6 (.inr q2), ?_, ?_⟩
      · refine ys_any (d := d + 1) ht hT hC hw (fun e' => by rw [e] at e'; cases e') (fun u' q' e' w' f g => ?_)
        rw [e] at e'
        cases e'
        exact ⟨rfl, f.up (by decide) (by decide), by rw [f.i5 (by decide)]; exact hw, g⟩
      rintro _ w6 ⟨rfl, f6, m6⟩
      have hT6 := hT.tw f6 (by decide)
      refine ⟨fun v w9 => v = nI (bu_num t 1 2 (.inr q2)).1 ∧ by_fr [] by_tw w6 w9 ∧ by_M t w9 (bu_num t 1 2 (.inr q2)).2, ys_digU (d := d) (hi := 2) (by decide) ht hT6 ok0 m6 (fun w' f g => ⟨rfl, f, g⟩), ?_⟩
      rintro _ w9 ⟨rfl, f9, m9⟩
      have f69 := f6.tr f9
      cases e3 : bp_num t q2 1 2 with
      | none =>
        rw [bu_num_n e3] at m9
        rw [e3] at hq
        have m9' : gw_i w9 50 10 = nI q2 := m9
        exact br_nt (by_bad10 (by have := ok0.1.1; omega) m9') (hq w9 (f69.up (by decide) (by decide)) m9')
      | some s =>
        obtain ⟨v, q3⟩ := s
        rw [bu_num_s e3] at m9 ⊢
        rw [e3] at hq
        dsimp only at hq ⊢
        have hD9 := hD.tw f69
        refine br_nf m9.1 ?_
        rw [hD9.1, nI_clamp (by omega)]
        refine ⟨bm_in (by omega) (by decide), bm_in (by omega) (by decide), ?_⟩
        generalize hw10 : sw_i (sw_l w9 52 (bm_nn (dd_X D)) (by_w u)) 53 (bm_nn (dd_X D)) (nI v) = w10
        have f10 : by_fr [52, 53] [] w9 w10 := by rw [← hw10]; exact ((by_fr.rf _ _ _).sl (by decide) (by decide)).si (by decide) (by decide)
        have key : ∀ n i (w' : bw_W), i + n = 8 → by_fr [54] [] w10 w' → (∀ j, j < 8 * bm_nn (dd_X D) → gw_l w' 54 j = gw_l w10 54 j) → (∀ j, j < i → gw_l w' 54 (8 * bm_nn (dd_X D) + j) = 0) → bw_G E (d + 5) mX12_readNoun 70 [some (.ref 50), some (.int (nI q)), some (.long (by_w u)), none, some (.int (nI v)), some (.int (nI i))] [] w' (bw_qv Q) := by
          intro n
          induction n with
          | zero =>
            intro i w' hi f' k1 k2
            have e8 : i = 8 := by omega
            subst e8
            refine wfX12_readNoun_70 (br_t (by decide) ?_)
            have e20 : gw_i w' 50 20 = nI (bm_nn (dd_X D)) := by rw [f'.i5 (by decide), f10.i5 (by decide)]; exact hD9.1
            rw [e20, nI_1]
            have fa : by_fr [52, 53, 54] [] w9 w' := (f10.up (by decide) (by decide)).tr (f'.up (by decide) (by decide))
            have fF : by_fr [52, 53, 54] [20] w9 (sw_i w' 50 20 (nI (bm_nn (dd_X D) + 1))) := (fa.up (by decide) (by decide)).s5 (by decide)
            have mF : by_M t (sw_i w' 50 20 (nI (bm_nn (dd_X D) + 1))) (.inr q3) := by
              have := m9.s fa
              refine ⟨by rw [gs_ii, if_neg (by omega)]; exact this.1, ?_⟩
              have cc := this.2
              unfold by_C at cc ⊢
              simp only [gs_li, gs_ii]
              simpa using cc
            refine hq _ ((f69.up (by decide) (by decide)).tr (fF.up (by decide) (by decide))) ⟨mF.1, mF.2, ?_⟩
            refine ⟨by rw [gs_ii, if_pos ⟨rfl, rfl⟩]; rfl, ?_, fun j hj => ?_, fun j hj => ?_, fun j hj => ?_, fun m hm => ⟨?_, ?_, fun i hi => ?_⟩⟩
            · rw [gs_ii, if_neg (by omega), fa.i5 (by decide)]; exact hD9.2.1
            · have hj' : j < bm_nn (dd_X D) + 1 := hj
              show _ = by_w (bm_set (bm_nam (dd_X D)) (bm_nn (dd_X D)) u j) ∧ _ = nI (bm_set (bm_knd (dd_X D)) (bm_nn (dd_X D)) v j)
              refine ⟨?_, ?_⟩
              · rw [gs_li, f'.l (by decide) (by decide), ← hw10, gs_li, gs_ll]
                by_cases x : j = bm_nn (dd_X D)
                · rw [if_pos ⟨rfl, x⟩, x, bm_set_eq]
                · rw [if_neg (fun y => x y.2), bm_set_ne x]; exact (hD9.2.2.1 j (by omega)).1
              · rw [gs_ii, if_neg (fun x => absurd x.1 (by decide)), f'.i (by decide) (by decide), ← hw10, gs_ii]
                by_cases x : j = bm_nn (dd_X D)
                · rw [if_pos ⟨rfl, x⟩, x, bm_set_eq]
                · rw [if_neg (fun y => x y.2), bm_set_ne x, gs_il]; exact (hD9.2.2.1 j (by omega)).2
            · have hj' : j < 8 * (bm_nn (dd_X D) + 1) := hj
              show _ = by_w (dd_f D j)
              rw [gs_li]
              by_cases x : j < 8 * bm_nn (dd_X D)
              · rw [k1 j x, f10.l (by decide) (by decide)]; exact hD9.2.2.2.1 j x
              · have := k2 (j - 8 * bm_nn (dd_X D)) (by omega)
                rw [show 8 * bm_nn (dd_X D) + (j - 8 * bm_nn (dd_X D)) = j by omega] at this
                rw [this, hd.2.2.2.2.2.2.1 j (by omega)]; rfl
            · rw [gs_li, fa.l (by decide) (by decide)]; exact hD9.2.2.2.2.1 j hj
            · rw [gs_li, fa.l (by decide) (by decide)]; exact (hD9.2.2.2.2.2 m hm).1
            · rw [gs_ii, if_neg (fun x => absurd x.1 (by decide)), fa.i (by decide) (by decide)]; exact (hD9.2.2.2.2.2 m hm).2.1
            · exact ((hD9.2.2.2.2.2 m hm).2.2 i hi).fr fF (by decide) (by decide)
          | succ n ih =>
            intro i w' hi f' k1 k2
            have e20 : gw_i w' 50 20 = nI (bm_nn (dd_X D)) := by rw [f'.i5 (by decide), f10.i5 (by decide)]; exact hD9.1
            refine wfX12_readNoun_70 (br_f (nI_ge (a := i) (b := 8) (by omega) (by decide)) ?_)
            rw [e20, nl_8, pk_mul, nI_add, nI_clamp (by omega), nI_1]
            refine ⟨bm_in (by omega) (by decide), ih (i + 1) _ (by omega) (f'.sl (by decide) (by decide)) (fun j hj => ?_) (fun j hj => ?_)⟩
            · rw [gs_ll, if_neg (by omega)]; exact k1 j hj
            · rw [gs_ll]
              by_cases x : j = i
              · rw [if_pos ⟨rfl, by omega⟩]
              · rw [if_neg (by omega)]; exact k2 j (by omega)
        exact key 8 0 w10 rfl (by_fr.rf _ _ _) (fun _ _ => rfl) (fun j hj => absurd hj (Nat.not_lt_zero j))
  | none =>
    rw [e] at hq
    dsimp only at hq ⊢
    refine br_t rfl ⟨fun v w6 => by_fr [] by_tw w w6 ∧ gw_i w6 50 10 = nI q1, ?_, ?_⟩
    · refine ys_any (d := d + 1) ht hT hC hw (fun _ w' f g => ⟨f, g⟩) (fun u' q' e' => by rw [e] at e'; cases e')
    rintro _ w6 ⟨f6, g6⟩
    have hb := by_bad10 (w := w6) (e := q1) (by omega) g6
    refine ⟨fun v w9 => w6 = w9, ys_dig0 (d := d) hb rfl, ?_⟩
    rintro _ _ rfl
    exact br_nt hb (hq w6 (f6.up (by decide) (by decide)) g6)
end MLEX
