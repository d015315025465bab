/-! messages, clauses: the reference -/
section MLEX3
variable {E : bw_E} {d : Nat} {w : bw_W} {t : List Nat} {D : bd_D}
theorem ys_ritem9 {Q : bw_W → Prop} {q m : Nat} (hm : m < 4) (ht : bm_wfT t) (hw : gw_i w 50 10 = -1) (hC : by_C t q w) (h57 : gw_i w 57 m = nI 8) (hq : ∀ w', by_fr [] by_tw w w' → gw_i w' 50 10 = nI q → Q w') : bw_rv E (d + 5) mX12_readItem [.ref 50, .int (nI m)] w Q := by
  have im : vp_in (nI m) 4 := bm_in hm (by decide)
  have fin : ∀ (v : Int32), bw_G E (d + 5) mX12_readItem 21 [some (.ref 50), some (.int (nI m)), some (.int v), none] [] w (bw_qv Q) := fun v => by
    refine wfX12_readItem_21 ?_
    rw [if_neg (fun x => x hw), hC.1]
    exact hq _ ((by_fr.rf _ _ _).s5 (by decide)) (by rw [gs_ii, if_pos ⟨rfl, rfl⟩])
  refine wfX12_readItem ⟨fun v w3 => w = w3, ys_sort (d := d + 3) ht hC rfl, ?_⟩
  rintro v _ rfl
  refine ⟨fun _ => fin v, fun _ => ⟨im, ?_⟩⟩
  rw [nI_clamp (by omega), h57]
  exact br_nf rfl (fin v)
theorem by_C.s20 {q k : Nat} {v : Int32} (hk : k = 20 ∨ k = 21) (h : by_C t q w) : by_C t q (sw_i w 50 k v) := by
  rcases hk with rfl | rfl <;>
  · unfold by_C at h ⊢
    simp only [gs_li, gs_ii]
    simpa using h
theorem by_D_setI {w' : bw_W} {k : Nat} {x : Nat × Nat × Nat × List Nat} (hd : bd_wf D) (hD : by_D D w) (hk : 8 * bm_nm (dd_X D) ≤ k) (hi : by_i1 (bm_nm (dd_X D)) k w w') : by_D (bd_setI D k x) w' := by
  obtain ⟨f, h57, h58, h59⟩ := hi
  unfold by_D
  rw [f.i5 (by decide), f.i5 (by decide)]
  refine ⟨hD.1, hD.2.1, fun i hi => ?_, fun j hj => ?_, fun j hj => ?_, fun m hm => ⟨?_, ?_, fun i hi => ?_⟩⟩
  · rw [f.l (by decide) (by decide), f.i (by decide) (by decide)]; exact hD.2.2.1 i hi
  · rw [f.l (by decide) (by decide)]; exact hD.2.2.2.1 j hj
  · rw [f.l (by decide) (by decide)]; exact hD.2.2.2.2.1 j hj
  · rw [f.l (by decide) (by decide)]; exact (hD.2.2.2.2.2 m hm).1
  · have hm' : m < bm_nm (dd_X D) := hm
    rw [h57 m (by omega)]; exact (hD.2.2.2.2.2 m hm).2.1
  · have hm' : m < bm_nm (dd_X D) := hm
    have hi' : i < bm_cnt (dd_X D) m := hi
    have h8 := (hd.2.2.2.2.1 m hm').2.1
    show by_itd (bm_set (bm_it (dd_X D)) k x (8 * m + i)) (8 * m + i) w'
    rw [bm_set_ne (by omega)]
    have o := (hD.2.2.2.2.2 m hm').2.2 i hi'
    unfold by_itd at o ⊢
    rw [h58 _ (by omega), h58 _ (by omega), h58 _ (by omega), h59 _ (by omega)]; exact o
theorem ys_rmsg {Q : bw_W → Prop} {q q1 : Nat} (ht : bm_wfT t) (hT : by_T t w) (hd : bd_wf D) (hD : by_D D w) (hw : gw_i w 50 10 = -1) (hC : by_C t q1 w) (hqq : q ≤ t.length) (hq : ∀ w', by_fr by_ll by_lf w w' → by_r t w' (bl_msg t q q1 D) → Q w') : bw_rv E (d + 6) mX12_readMessage [.ref 50, .int (nI q)] w Q := by
  have h4 := hd.2.1
  have h480 := ht.1
  have hpl := hC.2.1
  have hpl1 := hpl.1
  unfold bl_msg at hq
  have bad : ∀ {X : Int64 → bw_W → Prop} (w1 : bw_W) (e : Nat), e ≤ 480 → gw_i w1 50 10 = nI e → Q w1 → (∃ Q4 : Int64 → bw_W → Prop, bw_rl E (d + 5) mX12_anyWord [.ref 50] w1 Q4 ∧ ∀ v5 w6, Q4 v5 w6 → (((gw_i w6 50 10) = (-1) → X v5 w6) ∧ (¬ ((gw_i w6 50 10) = (-1)) → Q w6))) := by
    intro X w1 e he h1 hQ
    have hb := by_bad10 he h1
    refine ⟨fun v w6 => w1 = w6, ys_any0 (d := d + 2) hb rfl, ?_⟩
    rintro _ _ rfl
    exact br_f hb hQ
  have j4 : nI (bm_nm (dd_X D)) = 4 ↔ bm_nm (dd_X D) = 4 := by
    rw [show (4 : Int32) = nI 4 from rfl]; exact nI_eq (by omega) (by decide)
  refine wfX12_readMessage ?_
  rw [hD.2.1]
  refine ⟨fun z => ?_, fun z => ?_⟩
  rotate_left
  · rw [if_pos (j4.mp z)] at hq
    rw [if_neg (fun x => x hw)]
    have f1 : by_fr [] by_tw w (sw_i w 50 10 (nI q)) := (by_fr.rf _ _ _).s5 (by decide)
    have e1 : gw_i (sw_i w 50 10 (nI q)) 50 10 = nI q := by rw [gs_ii, if_pos ⟨rfl, rfl⟩]
    have hb := by_bad10 (w := sw_i w 50 10 (nI q)) (e := q) (by omega) e1
    refine ⟨fun v w16 => v = false ∧ sw_i w 50 10 (nI q) = w16, ys_there0 (d := d + 3) hb hd (hD.tw f1) ⟨rfl, rfl⟩, ?_⟩
    rintro _ _ ⟨rfl, rfl⟩
    exact ⟨fun _ => bad _ q (by omega) e1 (hq _ (f1.up (by decide) (by decide)) e1), fun y => absurd y br_ft⟩
  have n4 : bm_nm (dd_X D) ≠ 4 := fun x => z (j4.mpr x)
  rw [if_neg n4] at hq
  refine ⟨fun v w3 => v = (bd_at t q1 (dd_t D) (bm_nm (dd_X D))).isSome ∧ w = w3, ys_there (d := d + 3) ht hw hC hd hD ⟨rfl, rfl⟩, ?_⟩
  rintro _ _ ⟨rfl, rfl⟩
  unfold bd_at
  cases e : bp_word t q1 with
  | none =>
    rw [e] at hq
    refine ⟨fun _ => ⟨fun v w6 => by_fr [] by_tw w w6 ∧ gw_i w6 50 10 = nI q1, ?_, ?_⟩, fun y => absurd y br_ft⟩
    · exact ys_any (d := d + 2) ht hT hC hw (fun _ w' f g => ⟨f, g⟩) (fun u' q' e' => by rw [e] at e'; cases e')
    rintro _ w6 ⟨f6, g6⟩
    exact br_f (by_bad10 (e := q1) (by omega) g6) (hq w6 (f6.up (by decide) (by decide)) g6)
  | some r =>
    obtain ⟨u, q2⟩ := r
    have o := bp_word_some hpl1 e
    rw [e] at hq
    dsimp only at hq ⊢
    cases e2 : bd_fi (dd_t D) u (bm_nm (dd_X D)) 0 with
    | some i =>
      rw [e2] at hq
      refine ⟨fun y => absurd y br_tf, fun _ => ?_⟩
      rw [if_neg (fun x => x hw), hC.1]
      have f1 : by_fr [] by_tw w (sw_i w 50 10 (nI q1)) := (by_fr.rf _ _ _).s5 (by decide)
      have e1 : gw_i (sw_i w 50 10 (nI q1)) 50 10 = nI q1 := by rw [gs_ii, if_pos ⟨rfl, rfl⟩]
      exact bad _ q1 (by omega) e1 (hq _ (f1.up (by decide) (by decide)) e1)
    | none =>
      rw [e2] at hq
      dsimp only at hq
      refine ⟨fun _ => ⟨fun v w6 => v = by_w u ∧ by_fr [] by_tw w w6 ∧ by_M t w6 (.inr q2), ?_, ?_⟩, fun y => absurd y br_ft⟩
      · refine ys_any (d := d + 2) ht hT hC hw (fun e' => by rw [e] at e'; cases e') (fun u' q' e' w' f g => ?_)
        rw [e] at e'
        cases e'
        exact ⟨rfl, f.up (by decide) (by decide), by rw [f.i5 (by decide)]; exact hw, g⟩
      rintro _ w6 ⟨rfl, f6, m6⟩
      have hD6 := hD.tw f6
      refine br_t m6.1 ?_
      generalize hm : bm_nm (dd_X D) = mm at *
      have e21 : gw_i w6 50 21 = nI mm := by rw [f6.i5 (by decide), hD.2.1, hm]
      have hm4 : mm < 4 := by omega
      rw [e21, nI_clamp (by omega)]
      refine ⟨bm_in hm4 (by decide), bm_in hm4 (by decide), ?_⟩
      generalize hw7 : sw_i (sw_l w6 56 mm (by_w u)) 57 mm 0 = w7
      have f7 : by_fr [56, 57] [] w6 w7 := by rw [← hw7]; exact ((by_fr.rf _ _ _).sl (by decide) (by decide)).si (by decide) (by decide)
      have m7 : by_M t w7 (.inr q2) := m6.s f7
      have f67 : by_fr by_ll by_lf w w7 := (f6.up (by decide) (by decide)).tr (f7.up (by decide) (by decide))
      have hD7 : by_D D w7 := by
        unfold by_D
        rw [f7.i5 (by decide), f7.i5 (by decide)]
        refine ⟨hD6.1, hD6.2.1, fun i hi => ?_, fun j hj => ?_, fun j hj => ?_, fun m hm2 => ⟨?_, ?_, fun i hi => ?_⟩⟩
        · rw [f7.l (by decide) (by decide), f7.i (by decide) (by decide)]; exact hD6.2.2.1 i hi
        · rw [f7.l (by decide) (by decide)]; exact hD6.2.2.2.1 j hj
        · rw [f7.l (by decide) (by decide)]; exact hD6.2.2.2.2.1 j hj
        · rw [← hw7, gs_li, gs_ll, if_neg (by omega)]; exact (hD6.2.2.2.2.2 m hm2).1
        · rw [← hw7, gs_ii, if_neg (by omega), gs_il]; exact (hD6.2.2.2.2.2 m hm2).2.1
        · exact ((hD6.2.2.2.2.2 m hm2).2.2 i hi).fr f7 (by decide) (by decide)
      have g56 : gw_l w7 56 mm = by_w u := by rw [← hw7, gs_li, gs_ll, if_pos ⟨rfl, rfl⟩]
      have g57 : gw_i w7 57 mm = nI 0 := by rw [← hw7, gs_ii, if_pos ⟨rfl, rfl⟩]; rfl
      generalize hR : bl_items t mm 8 0 q2 D = R at hq
      -- the end in a fault
      have fault : ∀ (w' : bw_W) (e0 : Nat), by_fr by_ll by_lf w w' → gw_i w' 50 10 = nI e0 → R = .inl e0 → bw_G E (d + 6) mX12_readMessage 63 [some (.ref 50), some (.int (nI q)), some (.long (by_w u)), none, some (.int (nI mm)), some (.int 0)] [] w' (bw_qv Q) := by
        intro w' e0 f' g' hr
        rw [hr] at hq
        refine wfX12_readMessage_63 (br_t rfl (hq _ (f'.s5 (by decide)) ?_))
        show gw_i _ 50 10 = nI e0
        rw [gs_ii, if_neg (by omega)]; exact g'
      have done : ∀ (c qq : Nat) (D' : bd_D) (w' : bw_W), bd_wf D' → bm_nm (dd_X D') = mm → by_D D' w' → gw_l w' 56 mm = by_w u → gw_i w' 57 mm = nI c → by_M t w' (.inr qq) → by_fr by_ll by_lf w w' → (∀ j, j < c → by_itd (bm_it (dd_X D') (8 * mm + j)) (8 * mm + j) w') → R = .inr (D', c, qq) → bw_G E (d + 6) mX12_readMessage 63 [some (.ref 50), some (.int (nI q)), some (.long (by_w u)), none, some (.int (nI mm)), some (.int 0)] [] w' (bw_qv Q) := by
        intro c qq D' w' hd' hmm hD' k56 k57 hM' f' hit hr
        rw [hr] at hq
        refine wfX12_readMessage_63 (br_t rfl ?_)
        rw [hD'.2.1, hmm, nI_1]
        have fF : by_fr [] [21] w' (sw_i w' 50 21 (nI (mm + 1))) := (by_fr.rf _ _ _).s5 (by decide)
        refine hq _ (f'.s5 (by decide)) ⟨by rw [gs_ii, if_neg (by omega)]; exact hM'.1, hM'.2.s20 (Or.inr rfl), ?_⟩
        refine ⟨?_, ?_, fun j hj => ?_, fun j hj => ?_, fun j hj => ?_, fun m hm2 => ?_⟩
        · rw [fF.i5 (by decide)]; exact hD'.1
        · rw [gs_ii, if_pos ⟨rfl, rfl⟩]; show _ = nI (bm_nm (dd_X D') + 1); rw [hmm]
        · rw [fF.l (by decide) (by decide), fF.i (by decide) (by decide)]; exact hD'.2.2.1 j hj
        · rw [fF.l (by decide) (by decide)]; exact hD'.2.2.2.1 j hj
        · rw [fF.l (by decide) (by decide)]; exact hD'.2.2.2.2.1 j hj
        · have hm3 : m < bm_nm (dd_X D') + 1 := hm2
          show _ = by_w (bm_set (dd_t D') (bm_nm (dd_X D')) u m) ∧ _ = nI (bm_set (bm_cnt (dd_X D')) (bm_nm (dd_X D')) c m) ∧ ∀ j, j < bm_set (bm_cnt (dd_X D')) (bm_nm (dd_X D')) c m → by_itd (bm_it (dd_X D') (8 * m + j)) (8 * m + j) _
          rw [fF.l (by decide) (by decide), fF.i (by decide) (by decide), hmm]
          by_cases x : m = mm
          · rw [x, bm_set_eq, bm_set_eq]
            exact ⟨k56, k57, fun j hj => (hit j hj).fr fF (by decide) (by decide)⟩
          · rw [bm_set_ne x, bm_set_ne x]
            have tt := hD'.2.2.2.2.2 m (by omega)
            exact ⟨tt.1, tt.2.1, fun j hj => (tt.2.2 j hj).fr fF (by decide) (by decide)⟩
      have key : ∀ n i qq (D' : bd_D) (w' : bw_W), i + n = 8 → bd_wf D' → bm_nm (dd_X D') = mm → by_D D' w' → gw_l w' 56 mm = by_w u → gw_i w' 57 mm = nI i → by_M t w' (.inr qq) → by_fr by_ll by_lf w w' → (∀ j, j < i → by_itd (bm_it (dd_X D') (8 * mm + j)) (8 * mm + j) w') → (i ≠ 0 → ¬ (t.length ≤ qq ∨ bm_b t qq = 59)) → R = bl_items t mm n i qq D' → bw_G E (d + 6) mX12_readMessage 63 [some (.ref 50), some (.int (nI q)), some (.long (by_w u)), none, some (.int (nI mm)), some (.int 1)] [] w' (bw_qv Q) := by
        intro n
        induction n with
        | zero =>
          intro i qq D' w' hi hd' hmm hD' k56 k57 hM' f' hit hne hgo
          have e8 : i = 8 := by omega
          subst e8
          rw [bl_items, if_neg (hne (by decide))] at hgo
          refine wfX12_readMessage_63 (br_f (by decide) ⟨fun w3 => by_fr [] by_tw w' w3 ∧ gw_i w3 50 10 = nI qq, ys_ritem9 (d := d) hm4 ht hM'.1 hM'.2 k57 (fun w'' a b => ⟨a, b⟩), ?_⟩)
          rintro w3 ⟨f3, g3⟩
          have hqq2 : qq ≤ t.length := hM'.2.2.1.1
          exact br_nt (by_bad10 (e := qq) (by omega) g3) (fault w3 qq (f'.tr (f3.up (by decide) (by decide))) g3 hgo)
        | succ n ih =>
          intro i qq D' w' hi hd' hmm hD' k56 k57 hM' f' hit hne hgo
          have hpl' : bm_pl t qq := hM'.2.2.1
          have hT' : by_T t w' := hT.fr f' (by decide) (by decide)
          rw [bl_items, if_neg (fun x => hne x.1 x.2)] at hgo
          have ok := bl_item_ok hpl'
          refine wfX12_readMessage_63 (br_f (by decide) ⟨fun w3 => by_i1 mm (8 * mm + i) w' w3 ∧ by_ri t mm (8 * mm + i) i w3 (bl_item t qq), ys_ritem (d := d) hm4 (by omega) ht hT' hM'.1 hM'.2 k57 (fun w'' a b => ⟨a, b⟩), ?_⟩)
          rintro w3 ⟨i3, r3⟩
          have f3 : by_fr by_ll by_lf w w3 := f'.tr (i3.1.up (by decide) (by decide))
          cases e9 : bl_item t qq with
          | inl e0 =>
            rw [e9] at r3 hgo ok
            have he0 : e0 ≤ t.length := ok
            have r3' : gw_i w3 50 10 = nI e0 := r3
            exact br_nt (by_bad10 (e := e0) (by omega) r3') (fault w3 e0 f3 r3' hgo)
          | inr s =>
            obtain ⟨x, q'⟩ := s
            rw [e9] at r3 hgo ok
            obtain ⟨g10, c3, it3, k3⟩ := r3
            dsimp only at hgo
            have hDs : by_D (bd_setI D' (8 * mm + i) x) w3 := by
              refine by_D_setI hd' hD' (by omega) ?_
              rw [hmm]; exact i3
            have hds := bd_wf_setI (x := x) hd' (show 8 * bm_nm (dd_X D') ≤ 8 * mm + i by omega)
            have hit3 : ∀ j, j < i + 1 → by_itd (bm_it (dd_X (bd_setI D' (8 * mm + i) x)) (8 * mm + j)) (8 * mm + j) w3 := fun j hj => by
              show by_itd (bm_set (bm_it (dd_X D')) (8 * mm + i) x (8 * mm + j)) (8 * mm + j) w3
              by_cases ej : j = i
              · rw [ej, bm_set_eq]; exact it3
              · rw [bm_set_ne (by omega)]
                have o9 := hit j (by omega)
                unfold by_itd at o9 ⊢
                rw [i3.2.2.1 _ (by omega), i3.2.2.1 _ (by omega), i3.2.2.1 _ (by omega), i3.2.2.2 _ (by omega)]; exact o9
            have k56' : gw_l w3 56 mm = by_w u := by rw [i3.1.l (by decide) (by decide)]; exact k56
            have stop : (t.length ≤ q' ∨ bm_b t q' = 59) → bw_G E (d + 6) mX12_readMessage 63 [some (.ref 50), some (.int (nI q)), some (.long (by_w u)), none, some (.int (nI mm)), some (.int 0)] [] w3 (bw_qv Q) := fun hs => by
              refine done (i + 1) q' _ w3 hds hmm hDs k56' k3 ⟨g10, c3⟩ f3 hit3 ?_
              rw [hgo]
              cases n with
              | zero => rw [bl_items, if_pos hs]
              | succ n => rw [bl_items, if_pos ⟨Nat.succ_ne_zero i, hs⟩]
            have sg : (((gw_i w3 50 10) = (-1)) ∧ (((gw_i w3 50 4) = 3) ∧ ((gw_i w3 50 8) = 59))) ↔ bm_b t q' = 59 := ⟨fun x => (by_C_sign c3 ht (c := 59) (by decide) (by decide)).mp x.2, fun x => ⟨g10, (by_C_sign c3 ht (c := 59) (by decide) (by decide)).mpr x⟩⟩
            refine br_nf g10 ?_
            rw [sg, by_C_over c3]
            refine ⟨fun z1 => stop (Or.inl z1), fun z1 => ⟨fun z2 => stop (Or.inr z2), fun z2 => ?_⟩⟩
            exact ih (i + 1) q' _ w3 (by omega) hds hmm hDs k56' k3 ⟨g10, c3⟩ f3 hit3 (fun _ x => x.elim z1 z2) hgo
      exact key 8 0 q2 D w7 rfl hd hm hD7 g56 g57 m7 f67 (fun j hj => absurd hj (Nat.not_lt_zero j)) (fun x => absurd rfl x) hR.symm
theorem ys_clause {Q : bw_W → Prop} {q : Nat} (ht : bm_wfT t) (hT : by_T t w) (hd : bd_wf D) (hD : by_D D w) (hw : gw_i w 50 10 = -1) (hC : by_C t q w) (hq : ∀ w', by_fr by_ll by_lf w w' → by_r t w' (bl_clause t q D) → Q w') : bw_rv E (d + 7) mX12_clause [.ref 50] w Q := by
  have hpl := hC.2.1
  have hpl1 := hpl.1
  unfold bl_clause at hq
  refine wfX12_clause ?_
  rw [yw_is (k := 0) (c := 287078) hC ht hw (bm_kw_ok2 0 (by decide)) (by decide +kernel), yw_is (k := 1) (c := 129532) hC ht hw (bm_kw_ok2 1 (by decide)) (by decide +kernel), yw_is (k := 2) (c := 656509298) hC ht hw (bm_kw_ok2 2 (by decide)) (by decide +kernel), yw_is (k := 3) (c := 6465266843) hC ht hw (bm_kw_ok2 3 (by decide)) (by decide +kernel), yw_is (k := 4) (c := 5118683171) hC ht hw (bm_kw_ok2 4 (by decide)) (by decide +kernel)]
  rw [hC.1]
  have last : (∀ w', by_fr by_ll by_lf w w' → gw_i w' 50 10 = nI q → Q w') → Q (sw_i w 50 10 (if ¬ (gw_i w 50 10) = (-1) then (gw_i w 50 10) else (nI q))) := fun h => by
    rw [if_neg (fun x => x hw)]
    exact h _ ((by_fr.rf _ _ _).s5 (by decide)) (by rw [gs_ii, if_pos ⟨rfl, rfl⟩])
  cases e : bp_word t q with
  | none =>
    rw [e] at hq
    have no : ∀ k, ¬ ∃ q', (none : Option (List Nat × Nat)) = some (bm_kw k, q') := fun k ⟨q', x⟩ => by cases x
    exact br_nt (no 0) (br_nt (no 1) (br_nt (no 2) (br_nt (no 3) (br_nt (no 4) (last hq)))))
  | some r =>
    obtain ⟨u, q1⟩ := r
    rw [e] at hq
    dsimp only at hq
    have o := bp_word_some hpl1 e
    have hlt : q < q1 := o.2.2.2.2.2.2.2
    have is : ∀ k, (∃ q', (some (u, q1) : Option (List Nat × Nat)) = some (bm_kw k, q')) ↔ u = bm_kw k := fun k => ⟨fun ⟨q', x⟩ => by cases x; rfl, fun x => ⟨q1, by rw [x]⟩⟩
    rw [is, is, is, is, is]
    have nx : ∀ {P : bw_W → Prop}, (∀ w3, by_fr by_ll by_lf w w3 → by_T t w3 → by_D D w3 → gw_i w3 50 10 = -1 → by_C t q1 w3 → P w3) → ∃ Q1 : bw_W → Prop, bw_rv E (d + 6) mX12_next [.ref 50] w Q1 ∧ ∀ w3, Q1 w3 → P w3 := fun {P} h => by
      refine ⟨fun w3 => by_fr [] by_tf w w3 ∧ by_C t q1 w3, ys_nextW (d := d + 4) ht hT hC e (fun w' f c => ⟨f, c⟩), ?_⟩
      rintro w3 ⟨f3, c3⟩
      have f3' : by_fr [] by_tw w w3 := f3.up (by decide) (by decide)
      exact h w3 (f3.up (by decide) (by decide)) (hT.tw f3' (by decide)) (hD.tw f3') (by rw [f3.i5 (by decide)]; exact hw) c3
    by_cases k0 : u = bm_kw 0
    · rw [if_pos k0] at hq
      exact br_nf k0 (nx (fun w3 f3 T3 D3 h3 c3 => ⟨Q, ys_rnoun (d := d + 1) ht T3 hd D3 h3 c3 hpl1 (fun w' f r => hq w' (f3.tr f) r), fun _ h => h⟩))
    rw [if_neg k0] at hq
    refine br_nt k0 ?_
    by_cases k1 : u = bm_kw 1
    · rw [if_pos k1] at hq
      exact br_nf k1 (nx (fun w3 f3 T3 D3 h3 c3 => ⟨Q, ys_rform (d := d + 1) ht T3 hd D3 h3 c3 hpl1 (fun w' f r => hq w' (f3.tr f) r), fun _ h => h⟩))
    rw [if_neg k1] at hq
    refine br_nt k1 ?_
    by_cases k2 : u = bm_kw 2
    · rw [if_pos k2] at hq
      exact br_nf k2 (nx (fun w3 f3 T3 D3 h3 c3 => ⟨Q, ys_rbound (d := d + 1) (pb := false) ht T3 hd D3 h3 c3 hlt (fun w' f r => hq w' (f3.tr f) r), fun _ h => h⟩))
    rw [if_neg k2] at hq
    refine br_nt k2 ?_
    by_cases k3 : u = bm_kw 3
    · rw [if_pos k3] at hq
      exact br_nf k3 (nx (fun w3 f3 T3 D3 h3 c3 => ⟨Q, ys_rbound (d := d + 1) (pb := true) ht T3 hd D3 h3 c3 hlt (fun w' f r => hq w' (f3.tr f) r), fun _ h => h⟩))
    rw [if_neg k3] at hq
    refine br_nt k3 ?_
    by_cases k4 : u = bm_kw 4
    · rw [if_pos k4] at hq
      exact br_nf k4 (nx (fun w3 f3 T3 D3 h3 c3 => ⟨Q, ys_rmsg (d := d) ht T3 hd D3 h3 c3 hpl1 (fun w' f r => hq w' (f3.tr f) r), fun _ h => h⟩))
    rw [if_neg k4] at hq
    exact br_nt k4 (last hq)
/-- what the reference keeps of a lexicon's text -/
def by_gotL (w : bw_W) : Nat ⊕ bd_D → Prop
  | .inl _ => True
  | .inr D => by_D D w
theorem ys_rLex {Q : Int32 → bw_W → Prop} (ht : bm_wfT t) (hT : by_T t w) (hq : ∀ w', by_fr by_ll by_lf w w' → by_gotL w' (bl_lex t 481 (bm_sk t 0) bd_0) → Q (br_lex (bl_lex t 481 (bm_sk t 0) bd_0)) w') : bw_ri E (d + 8) mX12_readLexicon [.ref 50] w Q := by
  have h480 := ht.1
  generalize hR : bl_lex t 481 (bm_sk t 0) bd_0 = R at hq
  -- behind a fault
  have fault : ∀ (w' : bw_W) (e : Nat), e ≤ t.length → by_fr by_ll by_lf w w' → gw_i w' 50 10 = nI e → R = .inl e → bw_G E (d + 8) mX12_readLexicon 47 [some (.ref 50), some (.int 0)] [] w' (bw_qi Q) := by
    intro w' e he f' g' hr
    rw [hr] at hq
    have hb := by_bad10 (w := w') (e := e) (by omega) g'
    refine wfX12_readLexicon_47 (br_t rfl (br_nt hb ⟨Q, ys_ends0 (d := d + 5) hb ?_, fun _ _ h => h⟩))
    rw [g']; exact hq w' f' trivial
  have key : ∀ n q (D' : bd_D) (w' : bw_W), t.length < n + q → bd_wf D' → by_D D' w' → by_M t w' (.inr q) → by_fr by_ll by_lf w w' → R = bl_lex t n q D' → bw_G E (d + 8) mX12_readLexicon 47 [some (.ref 50), some (.int 1)] [] w' (bw_qi Q) := by
    intro n
    induction n with
    | zero =>
      intro q D' w' h1 hd hD hM f' hgo
      have := hM.2.2.1.1
      omega
    | succ n ih =>
      intro q D' w' h1 hd hD hM f' hgo
      have hpl : bm_pl t q := hM.2.2.1
      have hpl1 := hpl.1
      have hT' : by_T t w' := hT.fr f' (by decide) (by decide)
      rw [bl_lex] at hgo
      have ok := bl_clause_ok hpl hd
      refine wfX12_readLexicon_47 (br_f (by decide) ⟨fun w15 => by_fr by_ll by_lf w' w15 ∧ by_r t w15 (bl_clause t q D'), ys_clause (d := d) ht hT' hd hD hM.1 hM.2 (fun w'' a b => ⟨a, b⟩), ?_⟩)
      rintro w3 ⟨f3, r3⟩
      have f3' := f'.tr f3
      have hT3 : by_T t w3 := hT.fr f3' (by decide) (by decide)
      cases e : bl_clause t q D' with
      | inl e0 =>
        rw [e] at r3 hgo ok
        have he0 : e0 ≤ t.length := ok
        have r3' : gw_i w3 50 10 = nI e0 := r3
        refine ⟨fun v w18 => v = false ∧ w3 = w18, ys_takesU (d := d + 4) (p := 0) (μ := .inl e0) ht hT3 he0 r3' (fun _ => ⟨rfl, rfl⟩) (fun q' z => by cases z), ?_⟩
        rintro _ _ ⟨rfl, rfl⟩
        exact fault w3 e0 he0 f3' r3' hgo
      | inr s =>
        obtain ⟨D2, q'⟩ := s
        rw [e] at r3 hgo ok
        obtain ⟨g10, c3, hD3⟩ := r3
        obtain ⟨ok1, ok2, ok3⟩ := ok
        have ok2' := ok2.1
        dsimp only at hgo
        have h6 := ok1.1
        refine ⟨fun v w18 => (v = false → w3 = w18 ∧ bm_b t q' ≠ 59) ∧ (v = true → bm_b t q' = 59 ∧ by_fr [] by_tf w3 w18 ∧ by_M t w18 (.inr (bm_sk t (q' + 1)))), ys_takesU (d := d + 4) (p := q) (μ := .inr q') ht hT3 ⟨ok2, ok3⟩ ⟨g10, c3⟩ (fun h => ⟨fun _ => ⟨rfl, h q' rfl⟩, fun y => absurd y br_ft⟩) (fun q2 y b w'' f g => by cases y; exact ⟨fun y => absurd y br_tf, fun _ => ⟨b, f, g⟩⟩), ?_⟩
        rintro v17 w18 ⟨h17, h18⟩
        cases v17 with
        | true =>
          obtain ⟨b, f18, m18⟩ := h18 rfl
          have ce : ¬ t.length ≤ q' := fun x => by rw [bm_b_out x] at b; cases b
          rw [if_neg ce, if_neg (fun x => x b)] at hgo
          have hge : q' + 1 ≤ bm_sk t (q' + 1) := bm_e_ge (P := bm_bl) rfl (show q' + 1 ≤ t.length by omega)
          exact ih (bm_sk t (q' + 1)) D2 w18 (by omega) ok1 (hD3.tw (f18.up (by decide) (by decide))) m18 (f3'.tr (f18.up (by decide) (by decide))) hgo
        | false =>
          obtain ⟨rfl, b⟩ := h17 rfl
          have gets : ∀ (w' : bw_W), by_fr [] [10] w3 w' → by_D D2 w' := fun w' f => hD3.fr f (fun c q => by cases q) (by decide) (by decide)
          refine wfX12_readLexicon_47 (br_t rfl (br_nf g10 ?_))
          rw [by_C_over c3, hD3.1, nI_z (by omega)]
          have ends : ∀ {v : Int32}, (if t.length ≤ q' then -1 else nI q') = v → (∀ w', by_fr [] [10] w3 w' → Q v w') → ∃ Q1 : Int32 → bw_W → Prop, bw_ri E (d + 7) mX12_ends [.ref 50] w3 Q1 ∧ ∀ v2 w3, Q1 v2 w3 → Q v2 w3 := fun {v} hv h => ⟨Q, ys_ends (d := d + 5) c3 g10 (fun w' f _ => by rw [hv]; exact h w' f), fun _ _ h => h⟩
          by_cases ce : t.length ≤ q'
          · rw [if_pos ce] at hgo
            refine br_nf ce ?_
            by_cases cz : bm_nn (dd_X D2) = 0
            · rw [if_pos cz] at hgo
              rw [hgo] at hq
              have e2 : gw_i w3 50 2 = nI t.length := by have := hT3.1; exact this
              have eq' : q' = t.length := by omega
              refine br_nf cz ?_
              rw [if_neg (fun x => x g10), e2]
              have f9 : by_fr [] [10] w3 (sw_i w3 50 10 (nI t.length)) := (by_fr.rf _ _ _).s5 (by decide)
              have g9 : gw_i (sw_i w3 50 10 (nI t.length)) 50 10 = nI t.length := by rw [gs_ii, if_pos ⟨rfl, rfl⟩]
              refine ⟨Q, ys_ends0 (d := d + 5) (by_bad10 (e := t.length) (by omega) g9) ?_, fun _ _ h => h⟩
              rw [g9, ← eq']
              have := hq _ (f3'.tr (f9.up (by decide) (by decide))) trivial
              rw [← eq'] at this
              exact this
            · rw [if_neg cz] at hgo
              rw [hgo] at hq
              exact br_nt cz (ends (v := -1) (by rw [if_pos ce]) (fun w' f => hq w' (f3'.tr (f.up (by decide) (by decide))) (gets w' f)))
          · rw [if_neg ce, if_pos b] at hgo
            rw [hgo] at hq
            exact br_nt ce (ends (v := nI q') (by rw [if_neg ce]) (fun w' f => hq w' (f3'.tr (f.up (by decide) (by decide))) trivial))
  refine wfX12_readLexicon ?_
  generalize hwz : sw_i (sw_i (sw_i (sw_i w 50 3 0) 50 10 (-1)) 50 20 0) 50 21 0 = wz
  have fz : by_fr by_ll by_lf w wz := by rw [← hwz]; exact ((((by_fr.rf _ _ _).s5 (by decide)).s5 (by decide)).s5 (by decide)).s5 (by decide)
  have clr : ∀ n i (w' : bw_W), i + n = 48 → by_fr [55] [] wz w' → (∀ j, j < i → gw_l w' 55 j = 0) → bw_G E (d + 8) mX12_readLexicon 22 [some (.ref 50), some (.int (nI i))] [] w' (bw_qi Q) := by
    intro n
    induction n with
    | zero =>
      intro i w' hi f' h0
      have fw : by_fr by_ll by_lf w w' := fz.tr (f'.up (by decide) (by decide))
      have e48 : i = 48 := by omega
      subst e48
      refine wfX12_readLexicon_22 (br_t (by decide) ⟨fun w4 => by_fr [] by_tf w' w4 ∧ by_C t (bm_sk t 0) w4, ys_next (d := d + 5) (p := 0) ht (hT.fr fw (by decide) (by decide)) ?_ (Nat.zero_le _) (fun w'' f g => ⟨f, g⟩), ?_⟩)
      · rw [f'.i5 (by decide), ← hwz, gs_ii, if_neg (by omega), gs_ii, if_neg (by omega), gs_ii, if_neg (by omega), gs_ii, if_pos ⟨rfl, rfl⟩]; rfl
      rintro w4 ⟨f4, c4⟩
      have e10 : gw_i w4 50 10 = -1 := by rw [f4.i5 (by decide), f'.i5 (by decide), ← hwz, gs_ii, if_neg (by omega), gs_ii, if_neg (by omega), gs_ii, if_pos ⟨rfl, rfl⟩]
      refine key 481 (bm_sk t 0) bd_0 w4 (by omega) bd_wf_0 ⟨?_, ?_, fun i hi => absurd hi (Nat.not_lt_zero i), fun j hj => absurd hj (Nat.not_lt_zero j), fun j hj => ?_, fun m hm => absurd hm (Nat.not_lt_zero m)⟩ ⟨e10, c4⟩ (fw.tr (f4.up (by decide) (by decide))) hR.symm
      · rw [f4.i5 (by decide), f'.i5 (by decide), ← hwz, gs_ii, if_neg (by omega), gs_ii, if_pos ⟨rfl, rfl⟩]; rfl
      · rw [f4.i5 (by decide), f'.i5 (by decide), ← hwz, gs_ii, if_pos ⟨rfl, rfl⟩]; rfl
      · rw [f4.l (by decide) (by decide), h0 j hj]; rfl
    | succ n ih =>
      intro i w' hi f' h0
      refine wfX12_readLexicon_22 (br_f (nI_ge (a := i) (b := 48) (by omega) (by decide)) ⟨bm_in (by omega) (by decide), ?_⟩)
      rw [nI_clamp (by omega), nI_1]
      refine ih (i + 1) _ (by omega) (f'.sl (by decide) (by decide)) (fun j hj => ?_)
      rw [gs_ll]
      by_cases x : j = i
      · rw [if_pos ⟨rfl, x⟩]
      · rw [if_neg (fun y => x y.2)]; exact h0 j (by omega)
  exact clr 48 0 wz rfl (by_fr.rf _ _ _) (fun j hj => absurd hj (Nat.not_lt_zero j))
end MLEX3
