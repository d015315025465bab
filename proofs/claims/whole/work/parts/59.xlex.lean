/-! the class reads a lexicon -/
def bx_itd (q : Nat × Nat × Nat × List Nat) (k : Nat) (w : bw_W) : Prop := gw_i w 13 k = nI (bm_sg q.1) ∧ (q.1 = 0 → gw_l w 16 k = bx_w q.2.2.2) ∧ (q.1 ≠ 0 → gw_i w 14 k = nI q.2.1) ∧ (q.1 ≠ 0 → q.1 ≠ 4 → gw_i w 15 k = nI q.2.2.1)
def bx_D (D : bd_D) (w : bw_W) : Prop := gw_i w 5 0 = nI (bm_nn (dd_X D)) ∧ gw_i w 5 6 = nI (bm_nm (dd_X D)) ∧ (∀ i, i < bm_nn (dd_X D) → gw_l w 6 i = bx_w (bm_nam (dd_X D) i) ∧ gw_i w 7 i = nI (bm_knd (dd_X D) i)) ∧ (∀ j, j < 48 → gw_l w 8 j = bx_w (dd_f D j)) ∧ (∀ j, j < 24 → gw_l w 9 j = bx_w (bm_wds (dd_X D) j) ∧ gw_l w 10 j = bx_w (bm_wds (dd_X D) (24 + j))) ∧ ∀ m, m < bm_nm (dd_X D) → gw_l w 11 m = bx_w (dd_t D m) ∧ gw_i w 12 m = nI (bm_cnt (dd_X D) m) ∧ ∀ i, i < bm_cnt (dd_X D) m → bx_itd (bm_it (dd_X D) (8 * m + i)) (8 * m + i) w
def bx_Z (w : bw_W) : Prop := ∀ i, i < 32 → fits .char (.int (gw_i w 13 i)) = true
abbrev bx_dl : List Nat := [3, 5, 6, 7, 8, 9, 10, 11, 12, 13, 14, 15, 16]
/-- what a reading method of the class answers -/
def bx_r (t : List Nat) (w : bw_W) : Nat ⊕ (bd_D × Nat) → Bool → Prop
  | .inl e, b => (b = false ∧ gw_i w 3 3 = nI e) ∨ (b = true ∧ bx_C t e w ∧ ¬ t.length ≤ e ∧ bm_b t e ≠ 59)
  | .inr (D, q), b => b = true ∧ bx_C t q w ∧ bx_D D w
theorem bx_itd.fr {q : Nat × Nat × Nat × List Nat} {k : Nat} {w w' : bw_W} {L : List Nat} (h : bx_itd q k w) (hf : bw_fr L w w') (h1 : 13 ∉ L) (h2 : 14 ∉ L) (h3 : 15 ∉ L) (h4 : 16 ∉ L) : bx_itd q k w' := by
  unfold bx_itd
  rw [hf.i h1, hf.l h4, hf.i h2, hf.i h3]; exact h
theorem bx_D.f3 {D : bd_D} {w w' : bw_W} (h : bx_D D w) (hf : bw_fr [3] w w') : bx_D D w' := by
  unfold bx_D
  rw [hf.i (by decide), hf.i (by decide)]
  refine ⟨h.1, h.2.1, fun i hi => ?_, fun j hj => ?_, fun j hj => ?_, fun m hm => ⟨?_, ?_, fun i hi => ?_⟩⟩
  · rw [hf.l (by decide), hf.i (by decide)]; exact h.2.2.1 i hi
  · rw [hf.l (by decide)]; exact h.2.2.2.1 j hj
  · rw [hf.l (by decide), hf.l (by decide)]; exact h.2.2.2.2.1 j hj
  · rw [hf.l (by decide)]; exact (h.2.2.2.2.2 m hm).1
  · rw [hf.i (by decide)]; exact (h.2.2.2.2.2 m hm).2.1
  · exact ((h.2.2.2.2.2 m hm).2.2 i hi).fr hf (by decide) (by decide) (by decide) (by decide)
theorem bx_Z.fr {w w' : bw_W} {L : List Nat} (h : bx_Z w) (hf : bw_fr L w w') (hn : 13 ∉ L) : bx_Z w' := fun i hi => by rw [hf.i hn]; exact h i hi
section XLEX
variable {E : bw_E} {d : Nat} {w : bw_W} {t : List Nat} {D : bd_D}
theorem xs_nnamed {Q : Int32 → bw_W → Prop} {u : List Nat} (hD : bx_D D w) (hd : bd_wf D) (hu : bm_ok u) (hq : Q (match bd_fi (bm_nam (dd_X D)) u (bm_nn (dd_X D)) 0 with | none => -1 | some i => nI i) w) : bw_ri E (d + 0) mX3_nounNamed [.ref 5, .long (bx_w u)] w Q := by
  have h6 := hd.1
  have key : ∀ k i, i + k = bm_nn (dd_X D) → Q (match bd_fi (bm_nam (dd_X D)) u k i with | none => -1 | some i => nI i) w → bw_G E (d + 0) mX3_nounNamed 2 [some (.ref 5), some (.long (bx_w u)), none, some (.int (nI i))] [] w (bw_qi Q) := by
    intro k
    induction k with
    | zero =>
      intro i h h2
      refine wfX3_nounNamed_2 ?_
      rw [hD.1]
      exact br_t (nI_le (by omega) (by omega)) h2
    | succ k ih =>
      intro i h h2
      refine wfX3_nounNamed_2 ?_
      rw [hD.1]
      refine br_f (nI_ge (by omega) (by omega)) ⟨bm_in (by omega) (by decide), ?_⟩
      rw [nI_clamp (by omega), (hD.2.2.1 i (by omega)).1, bx_w_eq (hd.2.2.1 i (by omega)).1 hu, nI_1]
      rw [bd_fi] at h2
      refine ⟨fun z => ?_, fun z => ?_⟩
      · rw [if_neg z] at h2; exact ih (i + 1) (by omega) h2
      · rw [if_pos z] at h2; exact h2
  exact wfX3_nounNamed (key _ 0 (by omega) hq)
theorem xs_mnamed {Q : Int32 → bw_W → Prop} {u : List Nat} (hD : bx_D D w) (hd : bd_wf D) (hu : bm_ok u) (hq : Q (match bd_fi (dd_t D) u (bm_nm (dd_X D)) 0 with | none => -1 | some i => nI i) w) : bw_ri E (d + 0) mX3_messageNamed [.ref 5, .long (bx_w u)] w Q := by
  have h6 := hd.2.1
  have key : ∀ k i, i + k = bm_nm (dd_X D) → Q (match bd_fi (dd_t D) u k i with | none => -1 | some i => nI i) w → bw_G E (d + 0) mX3_messageNamed 2 [some (.ref 5), some (.long (bx_w u)), none, some (.int (nI i))] [] w (bw_qi Q) := by
    intro k
    induction k with
    | zero =>
      intro i h h2
      refine wfX3_messageNamed_2 ?_
      rw [hD.2.1]
      exact br_t (nI_le (by omega) (by omega)) h2
    | succ k ih =>
      intro i h h2
      refine wfX3_messageNamed_2 ?_
      rw [hD.2.1]
      refine br_f (nI_ge (by omega) (by omega)) ⟨bm_in (by omega) (by decide), ?_⟩
      rw [nI_clamp (by omega), (hD.2.2.2.2.2 i (by omega)).1, bx_w_eq (hd.2.2.2.2.2.2.2 i (by omega)) hu, nI_1]
      rw [bd_fi] at h2
      refine ⟨fun z => ?_, fun z => ?_⟩
      · rw [if_neg z] at h2; exact ih (i + 1) (by omega) h2
      · rw [if_pos z] at h2; exact h2
  exact wfX3_messageNamed (key _ 0 (by omega) hq)
theorem xs_rnoun {Q : Bool → bw_W → Prop} {q q1 : Nat} (ht : bm_wfT t) (hT : bx_T t w) (hd : bd_wf D) (hD : bx_D D w) (hC : bx_C t q1 w) (hq : ∀ b w', bw_fr [3, 5, 6, 7] w w' → bx_r t w' (bl_noun t q q1 D) b → Q b w') : bw_rb E (d + 2) mX4_readNoun [.ref 4, .int (nI q)] w Q := by
  have h6 := hd.1
  unfold bl_noun at hq
  refine wfX4_readNoun ?_
  rw [hD.1, show (6 : Int32) = nI 6 from rfl, nI_ltI (by omega) (by decide)]
  refine ⟨fun z => ?_, fun z => ?_⟩
  rotate_left
  · rw [if_pos (by omega)] at hq
    exact hq false _ ((bw_fr.rf _ _).si (by decide)) (Or.inl ⟨rfl, by rw [gs_ii, if_pos ⟨rfl, rfl⟩]⟩)
  rw [if_neg (by omega)] at hq
  refine ⟨_, xs_word (Q := fun v w3 => (v = false → bp_word t q1 = none ∧ bw_fr [3] w w3 ∧ gw_i w3 3 3 = nI q1) ∧ (v = true → ∃ u q2, bp_word t q1 = some (u, q2) ∧ bw_fr [3] w w3 ∧ gw_i w3 3 2 = nI q1 ∧ gw_l w3 3 5 = bx_w u ∧ bx_C t q2 w3)) ht hT hC (fun e w' f g _ => ⟨fun _ => ⟨e, f, g⟩, fun z => absurd z br_ft⟩) (fun u q' e w' f g2 _ g5 c => ⟨fun z => absurd z br_tf, fun _ => ⟨u, q', e, f, g2, g5, c⟩⟩), ?_⟩
  rintro v2 w3 ⟨hno, hyes⟩
  refine ⟨fun y => ?_, fun y => ?_⟩
  rotate_left
  · obtain ⟨e, f, g⟩ := hno y
    rw [e] at hq
    exact hq false w3 (f.up (by decide)) (Or.inl ⟨rfl, g⟩)
  obtain ⟨u, q2, e, f3, g2, g5, c3⟩ := hyes y
  rw [e] at hq
  dsimp only at hq
  have o := bp_word_some hC.pl.1 e
  have hD3 := hD.f3 f3
  rw [g5]
  refine ⟨fun v w6 => v = (match bd_fi (bm_nam (dd_X D)) u (bm_nn (dd_X D)) 0 with | none => -1 | some i => nI i) ∧ w3 = w6, xs_nnamed (d := d + 1) hD3 hd o.1 ⟨rfl, rfl⟩, ?_⟩
  rintro _ _ ⟨rfl, rfl⟩
  cases e2 : bd_fi (bm_nam (dd_X D)) u (bm_nn (dd_X D)) 0 with
  | some i =>
    have hi := bd_fi_some e2
    rw [e2] at hq
    refine br_f (nI_ne_m1 (by omega)) ?_
    exact hq false _ ((f3.up (by decide)).si (by decide)) (Or.inl ⟨rfl, by rw [gs_ii, if_pos ⟨rfl, rfl⟩]; exact g2⟩)
  | none =>
    rw [e2] at hq
    dsimp only at hq
    refine br_t rfl ⟨bm_in (by omega) (by decide), ?_⟩
    rw [nI_clamp (by omega), g5]
    generalize hw4 : sw_l w3 6 (bm_nn (dd_X D)) (bx_w u) = w4
    have f4 : bw_fr [6] w3 w4 := by rw [← hw4]; exact (bw_fr.rf _ _).sl (by decide)
    have f34 : bw_fr [3, 5, 6, 7] w w4 := (f3.up (by decide)).tr (f4.up (by decide))
    refine ⟨fun b w10 => bw_fr [3] w4 w10 ∧ bx_q t w10 (bu_num t 1 2 (.inr q2)).2 b ∧ (b = true → gw_i w10 3 2 = nI q2 ∧ gw_i w10 3 4 = nI (bu_num t 1 2 (.inr q2)).1), xs_numU (m := 1) (hi := 2) (by decide) (by decide) ht (hT.fr f34 (by decide) (by decide)) (c3.fr f4 (by decide)) (fun b w' f g k => ⟨f, g, k⟩), ?_⟩
    rintro b w10 ⟨f10, q10, k10⟩
    cases e3 : bp_num t q2 1 2 with
    | none =>
      rw [e3] at hq
      rw [bu_num_n e3] at q10
      obtain ⟨rfl, g33⟩ := q10
      exact ⟨fun z => absurd z br_ft, fun _ => hq false w10 (f34.tr (f10.up (by decide))) (Or.inl ⟨rfl, g33⟩)⟩
    | some s =>
      obtain ⟨v, q3⟩ := s
      rw [e3] at hq
      rw [bu_num_s e3] at q10 k10
      obtain ⟨rfl, c10⟩ := q10
      have k4 := (k10 rfl).2
      refine ⟨fun _ => ⟨bm_in (by omega) (by decide), ?_⟩, fun z => absurd z br_tf⟩
      rw [k4, f10.i (show 5 ∉ [3] by decide), f4.i (by decide), hD3.1, nI_1]
      have fF : bw_fr [3, 5, 6, 7] w (sw_i (sw_i w10 7 (bm_nn (dd_X D)) (nI v)) 5 0 (nI (bm_nn (dd_X D) + 1))) := ((f34.tr (f10.up (by decide))).si (by decide)).si (by decide)
      have g57 : bw_fr [5, 7] w10 (sw_i (sw_i w10 7 (bm_nn (dd_X D)) (nI v)) 5 0 (nI (bm_nn (dd_X D) + 1))) := ((bw_fr.rf _ _).si (by decide)).si (by decide)
      refine hq true _ fF ⟨rfl, c10.fr g57 (by decide), ?_⟩
      have g8 : bw_fr [3, 5, 6, 7] w3 (sw_i (sw_i w10 7 (bm_nn (dd_X D)) (nI v)) 5 0 (nI (bm_nn (dd_X D) + 1))) := (((f4.up (by decide)).tr (f10.up (by decide))).si (by decide)).si (by decide)
      refine ⟨by rw [gs_ii, if_pos ⟨rfl, rfl⟩]; rfl, ?_, fun i hi => ?_, fun j hj => by rw [g8.l (by decide)]; exact hD3.2.2.2.1 j hj, fun j hj => by rw [g8.l (by decide), g8.l (by decide)]; exact hD3.2.2.2.2.1 j hj, fun m hm => ⟨by rw [g8.l (by decide)]; exact (hD3.2.2.2.2.2 m hm).1, by rw [g8.i (by decide)]; exact (hD3.2.2.2.2.2 m hm).2.1, fun i hi => ((hD3.2.2.2.2.2 m hm).2.2 i hi).fr g8 (by decide) (by decide) (by decide) (by decide)⟩⟩
      · rw [gs_ii, if_neg (by omega), gs_ii, if_neg (by omega), f10.i (by decide), f4.i (by decide)]; exact hD3.2.1
      · have hi' : i < bm_nn (dd_X D) + 1 := hi
        show _ = bx_w (bm_set (bm_nam (dd_X D)) (bm_nn (dd_X D)) u i) ∧ _ = nI (bm_set (bm_knd (dd_X D)) (bm_nn (dd_X D)) v i)
        refine ⟨?_, ?_⟩
        · rw [gs_li, gs_li, f10.l (by decide), ← hw4, gs_ll]
          by_cases z : i = bm_nn (dd_X D)
          · rw [if_pos ⟨rfl, z⟩, z, bm_set_eq]
          · rw [if_neg (fun x => z x.2), bm_set_ne z]; exact (hD3.2.2.1 i (by omega)).1
        · rw [gs_ii, if_neg (fun x => absurd x.1 (by decide)), gs_ii]
          by_cases z : i = bm_nn (dd_X D)
          · rw [if_pos ⟨rfl, z⟩, z, bm_set_eq]
          · rw [if_neg (fun x => z x.2), bm_set_ne z, f10.i (by decide), f4.i (by decide)]; exact (hD3.2.2.1 i (by omega)).2
/-- a word into a table -/
theorem xs_once {Q : Bool → bw_W → Prop} {q q' tn ta j : Nat} {old : List Nat} {g : List Nat → bd_D} (hsh : bw_sh ta = (2, tn, 0)) (hta : ta ≠ 1 ∧ ta ≠ 2 ∧ ta ≠ 3) (hj : j < tn) (htn : tn < 1000) (ht : bm_wfT t) (hT : bx_T t w) (hC : bx_C t q' w) (hold : gw_l w ta j = bx_w old) (hoo : bm_ok old) (hg : ∀ u w', bm_ok u → bw_fr [3, ta] w w' → (∀ k, gw_l w' ta k = if k = j then bx_w u else gw_l w ta k) → (∀ k, gw_i w' ta k = gw_i w ta k) → bx_D (g u) w') (hq : ∀ b w', bw_fr [3, ta] w w' → (∀ k, gw_i w' ta k = gw_i w ta k) → bx_r t w' (bl_once t q old (.inr q') g) b → Q b w') : bw_rb E (d + 2) mX4_readWordOnce [.ref 4, .int (nI q), .ref ta, .int (nI j)] w Q := by
  have nta : ta ∉ [3] := fun z => hta.2.2 (List.mem_singleton.mp z)
  unfold bl_once at hq
  dsimp only at hq
  refine wfX4_readWordOnce hsh ⟨bm_in hj (by omega), ?_⟩
  rw [nI_clamp (by omega), hold, bx_w0 hoo]
  refine ⟨fun z => ?_, fun z => ?_⟩
  rotate_left
  · rw [if_pos z] at hq
    exact hq false _ ((bw_fr.rf _ _).si (by simp)) (fun k => by rw [gs_ii, if_neg (fun x => hta.2.2 x.1)]) (Or.inl ⟨rfl, by rw [gs_ii, if_pos ⟨rfl, rfl⟩]⟩)
  rw [if_neg (fun y => y z)] at hq
  refine ⟨_, xs_word (Q := fun v w3 => (v = false → bp_word t q' = none ∧ bw_fr [3] w w3 ∧ gw_i w3 3 3 = nI q') ∧ (v = true → ∃ u q2, bp_word t q' = some (u, q2) ∧ bw_fr [3] w w3 ∧ gw_l w3 3 5 = bx_w u ∧ bx_C t q2 w3)) ht hT hC (fun e w' f g _ => ⟨fun _ => ⟨e, f, g⟩, fun z => absurd z br_ft⟩) (fun u q' e w' f _ _ g5 c => ⟨fun z => absurd z br_tf, fun _ => ⟨u, q', e, f, g5, c⟩⟩), ?_⟩
  rintro v2 w3 ⟨hno, hyes⟩
  refine ⟨fun y => ?_, fun y => ?_⟩
  rotate_left
  · obtain ⟨e, f, g⟩ := hno y
    rw [e] at hq
    exact hq false w3 (f.up (by simp)) (fun k => f.i nta k) (Or.inl ⟨rfl, g⟩)
  obtain ⟨u, q2, e, f3, g5, c3⟩ := hyes y
  rw [e] at hq
  have o := bp_word_some hC.pl.1 e
  refine ⟨bm_in hj (by omega), ?_⟩
  rw [g5]
  have fF : bw_fr [3, ta] w (sw_l w3 ta j (bx_w u)) := (f3.up (by simp)).sl (by simp)
  have gi : ∀ k, gw_i (sw_l w3 ta j (bx_w u)) ta k = gw_i w ta k := fun k => by rw [gs_il]; exact f3.i nta k
  refine hq true _ fF gi ⟨rfl, ?_, hg u _ o.1 fF (fun k => ?_) gi⟩
  · obtain ⟨p, a, b, c⟩ := c3
    exact ⟨p, a, b, c⟩
  · rw [gs_ll]
    by_cases z : k = j
    · rw [if_pos ⟨rfl, z⟩, if_pos z]
    · rw [if_neg (fun x => z x.2), if_neg z]; exact f3.l nta k
theorem bx_D_setF {w' : bw_W} {j : Nat} {u : List Nat} (hD : bx_D D w) (hf : bw_fr [3, 8] w w') (h8 : ∀ k, gw_l w' 8 k = if k = j then bx_w u else gw_l w 8 k) : bx_D (bd_setF D j u) w' := by
  unfold bx_D
  rw [hf.i (by decide), hf.i (by decide)]
  refine ⟨hD.1, hD.2.1, fun i hi => ?_, fun k hk => ?_, fun k hk => ?_, fun m hm => ⟨?_, ?_, fun i hi => ?_⟩⟩
  · rw [hf.l (by decide), hf.i (by decide)]; exact hD.2.2.1 i hi
  · show _ = bx_w (bm_set (dd_f D) j u k)
    rw [h8]
    by_cases z : k = j
    · rw [if_pos z, z, bm_set_eq]
    · rw [if_neg z, bm_set_ne z]; exact hD.2.2.2.1 k hk
  · rw [hf.l (by decide), hf.l (by decide)]; exact hD.2.2.2.2.1 k hk
  · rw [hf.l (by decide)]; exact (hD.2.2.2.2.2 m hm).1
  · rw [hf.i (by decide)]; exact (hD.2.2.2.2.2 m hm).2.1
  · exact ((hD.2.2.2.2.2 m hm).2.2 i hi).fr hf (by decide) (by decide) (by decide) (by decide)
theorem bx_D_setW {w' : bw_W} {p j : Nat} {u : List Nat} (hp : p < 2) (hD : bx_D D w) (hf : bw_fr [3, 9 + p] w w') (h8 : ∀ k, gw_l w' (9 + p) k = if k = j then bx_w u else gw_l w (9 + p) k) (hj : j < 24) : bx_D (bd_setW D (24 * p + j) u) w' := by
  have nn : ∀ c, c ≠ 3 → c ≠ 9 + p → c ∉ [3, 9 + p] := fun c h1 h2 q => by
    rcases List.mem_cons.mp q with z | z
    · exact h1 z
    · exact h2 (List.mem_singleton.mp z)
  unfold bx_D
  rw [hf.i (nn _ (by omega) (by omega)), hf.i (nn _ (by omega) (by omega))]
  refine ⟨hD.1, hD.2.1, fun i hi => ?_, fun k hk => ?_, fun k hk => ?_, fun m hm => ⟨?_, ?_, fun i hi => ?_⟩⟩
  · rw [hf.l (nn _ (by omega) (by omega)), hf.i (nn _ (by omega) (by omega))]; exact hD.2.2.1 i hi
  · rw [hf.l (nn _ (by omega) (by omega))]; exact hD.2.2.2.1 k hk
  · have t := hD.2.2.2.2.1 k hk
    show gw_l w' 9 k = bx_w (bm_set (bm_wds (dd_X D)) (24 * p + j) u k) ∧ gw_l w' 10 k = bx_w (bm_set (bm_wds (dd_X D)) (24 * p + j) u (24 + k))
    rcases (by omega : p = 0 ∨ p = 1) with rfl | rfl
    · have e9 : gw_l w' 9 k = if k = j then bx_w u else gw_l w 9 k := h8 k
      rw [e9, hf.l (show 10 ∉ [3, 9 + 0] by decide)]
      refine ⟨?_, ?_⟩
      · by_cases z : k = j
        · rw [if_pos z, show k = 24 * 0 + j by omega, bm_set_eq]
        · rw [if_neg z, bm_set_ne (by omega)]; exact t.1
      · rw [bm_set_ne (by omega)]; exact t.2
    · have e9 : gw_l w' 10 k = if k = j then bx_w u else gw_l w 10 k := h8 k
      rw [e9, hf.l (show 9 ∉ [3, 9 + 1] by decide)]
      refine ⟨?_, ?_⟩
      · rw [bm_set_ne (by omega)]; exact t.1
      · by_cases z : k = j
        · rw [if_pos z, show 24 + k = 24 * 1 + j by omega, bm_set_eq]
        · rw [if_neg z, bm_set_ne (by omega)]; exact t.2
  · rw [hf.l (nn _ (by omega) (by omega))]; exact (hD.2.2.2.2.2 m hm).1
  · rw [hf.i (nn _ (by omega) (by omega))]; exact (hD.2.2.2.2.2 m hm).2.1
  · exact ((hD.2.2.2.2.2 m hm).2.2 i hi).fr hf (nn _ (by omega) (by omega)) (nn _ (by omega) (by omega)) (nn _ (by omega) (by omega)) (nn _ (by omega) (by omega))
theorem bl_once_inl {t : List Nat} {q e : Nat} {old : List Nat} {g : List Nat → bd_D} : bl_once t q old (.inl e) g = .inl e := rfl
theorem xs_rform {Q : Bool → bw_W → Prop} {q q1 : Nat} (ht : bm_wfT t) (hT : bx_T t w) (hd : bd_wf D) (hD : bx_D D w) (hC : bx_C t q1 w) (hq : ∀ b w', bw_fr [3, 8] w w' → bx_r t w' (bl_form t q q1 D) b → Q b w') : bw_rb E (d + 3) mX4_readForm [.ref 4, .int (nI q)] w Q := by
  have h6 := hd.1
  unfold bl_form at hq
  refine wfX4_readForm ⟨_, xs_word (d := d + 1) (Q := fun v w3 => (v = false → bp_word t q1 = none ∧ bw_fr [3] w w3 ∧ gw_i w3 3 3 = nI q1) ∧ (v = true → ∃ u q2, bp_word t q1 = some (u, q2) ∧ bw_fr [3] w w3 ∧ gw_i w3 3 2 = nI q1 ∧ gw_l w3 3 5 = bx_w u ∧ bx_C t q2 w3)) ht hT hC (fun e w' f g _ => ⟨fun _ => ⟨e, f, g⟩, fun z => absurd z br_ft⟩) (fun u q' e w' f g2 _ g5 c => ⟨fun z => absurd z br_tf, fun _ => ⟨u, q', e, f, g2, g5, c⟩⟩), ?_⟩
  rintro v2 w3 ⟨hno, hyes⟩
  refine ⟨fun y => ?_, fun y => ?_⟩
  rotate_left
  · obtain ⟨e, f, g⟩ := hno y
    rw [e] at hq
    exact hq false w3 (f.up (by decide)) (Or.inl ⟨rfl, g⟩)
  obtain ⟨u, q2, e, f3, g2, g5, c3⟩ := hyes y
  rw [e] at hq
  dsimp only at hq
  have o := bp_word_some hC.pl.1 e
  have hD3 := hD.f3 f3
  have hT3 := hT.fr f3 (by decide) (by decide)
  rw [g5]
  refine ⟨fun v w6 => v = (match bd_fi (bm_nam (dd_X D)) u (bm_nn (dd_X D)) 0 with | none => -1 | some i => nI i) ∧ w3 = w6, xs_nnamed (d := d + 2) hD3 hd o.1 ⟨rfl, rfl⟩, ?_⟩
  rintro _ _ ⟨rfl, rfl⟩
  cases e2 : bd_fi (bm_nam (dd_X D)) u (bm_nn (dd_X D)) 0 with
  | none =>
    rw [e2] at hq
    refine br_nf rfl ?_
    exact hq false _ ((f3.up (by decide)).si (by decide)) (Or.inl ⟨rfl, by rw [gs_ii, if_pos ⟨rfl, rfl⟩]; exact g2⟩)
  | some n =>
    have hi := bd_fi_some e2
    rw [e2] at hq
    dsimp only at hq
    have ok0 : bu_ok t 0 (.inr q2) := ⟨c3.pl, by have := o.2.2.2.2.2.2.2; omega⟩
    have o1 := bu_num_ok (m := 1) (hi := 3) ok0
    have o2 := bu_num_ok (m := 1) (hi := 1) o1.1
    refine br_nt (nI_ne_m1 (by omega)) ⟨fun b w9 => bw_fr [3] w3 w9 ∧ bx_q t w9 (bu_num t 1 3 (.inr q2)).2 b ∧ (b = true → gw_i w9 3 2 = nI q2 ∧ gw_i w9 3 4 = nI (bu_num t 1 3 (.inr q2)).1), xs_numU (d := d + 1) (m := 1) (hi := 3) (by decide) (by decide) ht hT3 c3 (fun b w' f g k => ⟨f, g, k⟩), ?_⟩
    rintro b w9 ⟨f9, q9, k9⟩
    cases e3 : (bu_num t 1 3 (.inr q2)).2 with
    | inl e0 =>
      rw [e3] at q9 hq
      obtain ⟨rfl, g33⟩ := q9
      exact ⟨fun z => absurd z br_ft, fun _ => hq false w9 ((f3.tr f9).up (by decide)) (Or.inl ⟨rfl, g33⟩)⟩
    | inr q3 =>
      rw [e3] at q9 hq o2
      obtain ⟨rfl, c9⟩ := q9
      refine ⟨fun _ => ⟨fun b w12 => bw_fr [3] w9 w12 ∧ bx_q t w12 (bu_num t 1 1 (.inr q3)).2 b ∧ (b = true → gw_i w12 3 2 = nI q3 ∧ gw_i w12 3 4 = nI (bu_num t 1 1 (.inr q3)).1), xs_numU (d := d + 1) (m := 1) (hi := 1) (by decide) (by decide) ht (hT3.fr f9 (by decide) (by decide)) c9 (fun b w' f g k => ⟨f, g, k⟩), ?_⟩, fun z => absurd z br_tf⟩
      rintro b w12 ⟨f12, q12, k12⟩
      cases e4 : (bu_num t 1 1 (.inr q3)).2 with
      | inl e0 =>
        rw [e4] at q12 hq
        obtain ⟨rfl, g33⟩ := q12
        exact ⟨fun z => absurd z br_ft, fun _ => hq false w12 (((f3.tr f9).tr f12).up (by decide)) (Or.inl ⟨rfl, g33⟩)⟩
      | inr q4 =>
        rw [e4] at q12 hq
        obtain ⟨rfl, c12⟩ := q12
        have f312 := (f3.tr f9).tr f12
        have hD12 := hD.f3 f312
        refine ⟨fun _ => ?_, fun z => absurd z br_tf⟩
        rw [(k9 rfl).2, (k12 rfl).2, nl_8, nl_2, pk_mul, pk_mul, nI_add, nI_add, show n * 8 + (bu_num t 1 3 (.inr q2)).1 * 2 + (bu_num t 1 1 (.inr q3)).1 = 8 * n + 2 * (bu_num t 1 3 (.inr q2)).1 + (bu_num t 1 1 (.inr q3)).1 by omega]
        refine ⟨Q, xs_once (d := d) (ta := 8) (tn := 48) (old := dd_f D (8 * n + 2 * (bu_num t 1 3 (.inr q2)).1 + (bu_num t 1 1 (.inr q3)).1)) (g := bd_setF D (8 * n + 2 * (bu_num t 1 3 (.inr q2)).1 + (bu_num t 1 1 (.inr q3)).1)) (by decide) (by decide) (by omega) (by decide) ht (hT.fr f312 (by decide) (by decide)) c12 (hD12.2.2.2.1 _ (by omega)) (hd.2.2.2.2.2.1 _ (by omega)) (fun u w' _ f g _ => bx_D_setF hD12 f g) (fun b w' f _ r => hq b w' ((f312.up (by decide)).tr f) r), fun _ _ h => h⟩
theorem xs_rbound {Q : Bool → bw_W → Prop} {p q q1 : Nat} (hp : p < 2) (ht : bm_wfT t) (hT : bx_T t w) (hd : bd_wf D) (hD : bx_D D w) (hC : bx_C t q1 w) (hq : ∀ b w', bw_fr [3, 9 + p] w w' → bx_r t w' (bl_bound t p q q1 D) b → Q b w') : bw_rb E (d + 3) mX4_readBoundWord [.ref 4, .int (nI q), .ref (9 + p)] w Q := by
  have hsh : bw_sh (9 + p) = (2, 24, 0) := by rcases (by omega : p = 0 ∨ p = 1) with rfl | rfl <;> decide
  unfold bl_bound bl_slot at hq
  have ok0 : bu_ok t 0 (.inr q1) ∨ q1 = 0 := by
    rcases Nat.eq_zero_or_pos q1 with z | z
    · exact Or.inr z
    · exact Or.inl ⟨hC.pl, z⟩
  have v1 : (bu_num t 1 3 (.inr q1)).1 ≤ 3 := by
    cases e : bp_num t q1 1 3 with
    | none => rw [bu_num_n e]; exact Nat.zero_le _
    | some r => obtain ⟨v, q'⟩ := r; rw [bu_num_s e]; exact (bp_num_some hC.pl.1 e).1
  refine wfX4_readBoundWord hsh ⟨fun b w3 => bw_fr [3] w w3 ∧ bx_q t w3 (bu_num t 1 3 (.inr q1)).2 b ∧ (b = true → gw_i w3 3 2 = nI q1 ∧ gw_i w3 3 4 = nI (bu_num t 1 3 (.inr q1)).1), xs_numU (d := d + 1) (m := 1) (hi := 3) (by decide) (by decide) ht hT hC (fun b w' f g k => ⟨f, g, k⟩), ?_⟩
  rintro b w3 ⟨f3, q3, k3⟩
  cases e1 : (bu_num t 1 3 (.inr q1)).2 with
  | inl e0 =>
    rw [e1] at q3 hq
    obtain ⟨rfl, g33⟩ := q3
    exact ⟨fun z => absurd z br_ft, fun _ => hq false w3 (f3.up (by simp)) (Or.inl ⟨rfl, g33⟩)⟩
  | inr qa =>
    rw [e1] at q3 hq
    obtain ⟨rfl, c3⟩ := q3
    have hT3 := hT.fr f3 (by decide) (by decide)
    have v2 : (bu_num t 1 1 (.inr qa)).1 ≤ 1 := by
      cases e : bp_num t qa 1 1 with
      | none => rw [bu_num_n e]; exact Nat.zero_le _
      | some r => obtain ⟨v, q'⟩ := r; rw [bu_num_s e]; exact (bp_num_some c3.pl.1 e).1
    refine ⟨fun _ => ⟨fun b w6 => bw_fr [3] w3 w6 ∧ bx_q t w6 (bu_num t 1 1 (.inr qa)).2 b ∧ (b = true → gw_i w6 3 2 = nI qa ∧ gw_i w6 3 4 = nI (bu_num t 1 1 (.inr qa)).1), xs_numU (d := d + 1) (m := 1) (hi := 1) (by decide) (by decide) ht hT3 c3 (fun b w' f g k => ⟨f, g, k⟩), ?_⟩, fun z => absurd z br_tf⟩
    rintro b w6 ⟨f6, q6, k6⟩
    cases e2 : (bu_num t 1 1 (.inr qa)).2 with
    | inl e0 =>
      rw [e2] at q6 hq
      obtain ⟨rfl, g33⟩ := q6
      exact ⟨fun z => absurd z br_ft, fun _ => hq false w6 ((f3.tr f6).up (by simp)) (Or.inl ⟨rfl, g33⟩)⟩
    | inr qb =>
      rw [e2] at q6 hq
      obtain ⟨rfl, c6⟩ := q6
      have v3 : (bu_num t 1 2 (.inr qb)).1 ≤ 2 := by
        cases e : bp_num t qb 1 2 with
        | none => rw [bu_num_n e]; exact Nat.zero_le _
        | some r => obtain ⟨v, q'⟩ := r; rw [bu_num_s e]; exact (bp_num_some c6.pl.1 e).1
      refine ⟨fun _ => ⟨fun b w9 => bw_fr [3] w6 w9 ∧ bx_q t w9 (bu_num t 1 2 (.inr qb)).2 b ∧ (b = true → gw_i w9 3 2 = nI qb ∧ gw_i w9 3 4 = nI (bu_num t 1 2 (.inr qb)).1), xs_numU (d := d + 1) (m := 1) (hi := 2) (by decide) (by decide) ht (hT3.fr f6 (by decide) (by decide)) c6 (fun b w' f g k => ⟨f, g, k⟩), ?_⟩, fun z => absurd z br_tf⟩
      rintro b w9 ⟨f9, q9, k9⟩
      cases e3 : (bu_num t 1 2 (.inr qb)).2 with
      | inl e0 =>
        rw [e3] at q9 hq
        obtain ⟨rfl, g33⟩ := q9
        exact ⟨fun z => absurd z br_ft, fun _ => hq false w9 (((f3.tr f6).tr f9).up (by simp)) (Or.inl ⟨rfl, g33⟩)⟩
      | inr qc =>
        rw [e3] at q9 hq
        obtain ⟨rfl, c9⟩ := q9
        have fA := (f3.tr f6).tr f9
        have hD9 := hD.f3 fA
        refine ⟨fun _ => ?_, fun z => absurd z br_tf⟩
        rw [(k3 rfl).2, (k6 rfl).2, (k9 rfl).2, nl_2, nl_3, pk_mul, nI_add, pk_mul, nI_add, Nat.mul_comm _ 2]
        have hold : gw_l w9 (9 + p) ((2 * (bu_num t 1 3 (.inr q1)).1 + (bu_num t 1 1 (.inr qa)).1) * 3 + (bu_num t 1 2 (.inr qb)).1) = bx_w (bm_wds (dd_X D) (24 * p + ((2 * (bu_num t 1 3 (.inr q1)).1 + (bu_num t 1 1 (.inr qa)).1) * 3 + (bu_num t 1 2 (.inr qb)).1))) := by
          have t9 := hD9.2.2.2.2.1 ((2 * (bu_num t 1 3 (.inr q1)).1 + (bu_num t 1 1 (.inr qa)).1) * 3 + (bu_num t 1 2 (.inr qb)).1) (by omega)
          rcases (by omega : p = 0 ∨ p = 1) with rfl | rfl
          · rw [Nat.mul_zero, Nat.zero_add]; exact t9.1
          · exact t9.2
        rw [Nat.add_assoc (24 * p)] at hq
        exact ⟨Q, xs_once (d := d) (ta := 9 + p) (tn := 24) (old := bm_wds (dd_X D) (24 * p + ((2 * (bu_num t 1 3 (.inr q1)).1 + (bu_num t 1 1 (.inr qa)).1) * 3 + (bu_num t 1 2 (.inr qb)).1))) (g := bd_setW D (24 * p + ((2 * (bu_num t 1 3 (.inr q1)).1 + (bu_num t 1 1 (.inr qa)).1) * 3 + (bu_num t 1 2 (.inr qb)).1))) hsh (by omega) (by omega) (by decide) ht (hT.fr fA (by decide) (by decide)) c9 hold (hd.2.2.2.1 _ (by omega)) (fun u w' _ f g _ => bx_D_setW hp hD9 f g (by omega)) (fun b w' f _ r => hq b w' ((fA.up (by simp)).tr f) r), fun _ _ h => h⟩
end XLEX
