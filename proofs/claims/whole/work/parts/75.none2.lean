/-! the reference before a lexicon is taken: counts, acts -/
section NONE2
variable {E : bw_E} {d : Nat} {w : bw_W} {S : bm_S} {K : Nat} {Q : Int32 → bw_W → Prop}
theorem b0_word {p : Bool} {a1 a2 a3 a4 : Int32} (hw : bm_wfS K S) (h : by_0 S w) (hq : Q (br_word (st_X S) p a1 a2 a3 a4) w) : bw_ri E (d + 3) mX12_word [.ref 50, .int (bw_b p), .int a1, .int a2, .int a3, .int a4] w Q := qm_word h.2.1 hw.2.1 hq
theorem b0_count {a0 : Int32} (h : by_0 S w) (hq : Q (br_count S a0) w) : bw_ri E (d + 0) mX12_count [.ref 50, .int a0] w Q := by
  unfold br_count at hq
  obtain ⟨h1, h2, h3, h4, h5, h6, h7, h8, h9, h10, h11⟩ := h
  refine wfX12_count ⟨fun e => ?_, fun e => ?_, fun e => ?_, fun e => ?_, fun e => ?_, fun e => ?_⟩
  · rw [if_pos e] at hq; rw [h2.1]; exact hq
  · subst e; rw [if_neg (by decide), if_pos rfl] at hq; rw [h6.1]; exact hq
  · subst e; rw [if_neg (by decide), if_neg (by decide), if_pos rfl] at hq; rw [h1.1]; exact hq
  · subst e; rw [if_neg (by decide), if_neg (by decide), if_neg (by decide), if_pos rfl, h9] at hq
    rw [h3]; exact hq
  · subst e; rw [if_neg (by decide), if_neg (by decide), if_neg (by decide), if_neg (by decide), if_pos rfl, h10] at hq; rw [h4]; exact hq
  · obtain ⟨e0, e1, e2, e3, e4⟩ := bm_out5 e
    rw [if_neg e0, if_neg e1, if_neg e2, if_neg e3, if_neg e4] at hq; exact hq
theorem b0_stat {a0 : Int32} (h : by_0 S w) (hq : Q (br_stat S a0) w) : bw_ri E (d + 1) mX12_status [.ref 50, .int a0] w Q := by
  unfold br_stat at hq
  have h9 := h.2.2.2.2.2.2.1
  refine wfX12_status ?_
  rw [nl_2, bm_k_iff (n := 3) rfl (by decide)]
  cases e : bm_ix a0 3 with
  | none => rw [e] at hq; exact br_nt (fun q => q rfl) hq
  | some i =>
    rw [e] at hq
    obtain ⟨g, rfl⟩ := bm_ix_some e
    refine br_nf (by simp) ⟨bm_in g (by decide), ?_⟩
    rw [nI_clamp (by omega), h9 i g]; exact hq
theorem b0_log {a0 a1 : Int32} (h : by_0 S w) (hq : Q (br_log S a0 a1) w) : bw_ri E (d + 1) mX12_log [.ref 50, .int a0, .int a1] w Q := by
  unfold br_log at hq
  rw [h.2.2.2.2.2.2.2.2.1, show bm_l6 [] = 0 from rfl, bm_ix0] at hq
  refine wfX12_log (br_nt (fun q => ?_) hq)
  rw [h.2.2.1] at q
  exact (bm_m_iff (a := a0) (n := 0) (by decide)).mp q (bm_ix0 a0)
theorem b0_step {a0 a1 a2 : Int32} (hw : bm_wfS K S) (h : by_0 S w) (hq : Q (br_step S a0 a1 a2) w) : bw_ri E (d + 2) mX12_step [.ref 50, .int a0, .int a1, .int a2] w Q := by
  unfold br_step at hq
  have hC := hw.2.2.2.2.2.2
  have h8 := h.2.2.2.2.2.1
  have hC1 := hC.1
  refine wfX12_step ?_
  rw [h8.1, bm_m_iff (by omega)]
  cases e : bm_ix a0 (st_C S).length with
  | none => rw [e] at hq; exact br_nt (fun q => q rfl) hq
  | some n =>
    rw [e] at hq
    obtain ⟨g, rfl⟩ := bm_ix_some e
    obtain ⟨k1, k2⟩ := h8.2 n g
    obtain ⟨c1, c2, c3⟩ := hC.2 n g
    refine br_nf (by simp) ⟨bm_in (by omega) (by decide), ?_⟩
    rw [nI_clamp (by omega), k1, bm_m_iff (by omega)]
    cases e1 : bm_ix a1 (bm_s (st_C S) n).length with
    | none => simp only [e1] at hq; exact br_nt (fun q => q rfl) hq
    | some i =>
      obtain ⟨g1, rfl⟩ := bm_ix_some e1
      obtain ⟨t0, t1, t2, t3, t4⟩ := k2 i g1
      have o := c3 i g1
      refine br_nf (by simp) ?_
      rw [nl_4, bm_k_iff (n := 5) rfl (by decide)]
      cases e2 : bm_ix a2 5 with
      | none => simp only [e1, e2] at hq; exact br_f (fun q => q rfl) hq
      | some v =>
        simp only [e1, e2] at hq
        obtain ⟨g2, rfl⟩ := bm_ix_some e2
        refine br_t (by simp) ?_
        rw [nl_12, pk_mul, nI_add, pk_mul, nI_add, nI_eq (by omega) (by decide), nI_clamp (by omega), nI_clamp (by omega)]
        refine ⟨fun z => ⟨bm_in (by omega) (by decide), ?_⟩, fun z => ⟨bm_in (by omega) (by decide), ?_⟩⟩
        · rcases (by omega : v = 0 ∨ v = 1 ∨ v = 2 ∨ v = 3) with rfl | rfl | rfl | rfl
          · rw [Nat.add_zero, t0]; exact hq
          · rw [t1]; exact hq
          · rw [t2]; exact hq
          · rw [t3]; exact hq
        · subst z
          rw [t4]
          exact ⟨Q, by_lettersOf (d := d + 1) o.2.2.2.2.2.1 hq, fun _ _ h => h⟩
/-! acts: none is done -/
theorem b0_ref (h : by_0 S w) {s : Nat} {a b c : Int32} {u : List Nat} : br_ref (st_X S) (st_N S) s a b c u = .inl 0 := by
  unfold br_ref br_res
  rw [if_pos h.2.2.2.2.2.2.2.1]
theorem b0_whyNot {s a b c : Int32} {v : Int64} (h : by_0 S w) (hq : Q 0 w) : bw_ri E (d + 3) mX12_whyNot [.ref 50, .int s, .int a, .int b, .int c, .long v] w Q := by
  refine wfX12_whyNot ⟨fun _ => ⟨fun z => absurd z (b0_z2 h), fun z => absurd z (b0_z2 h), ?_⟩, fun _ => br_f (b0_z2 h) hq, fun _ => br_f (b0_z3 h) hq, fun _ => br_f (b0_z1 h a) hq, fun _ => br_f (b0_z1 h a) hq⟩
  unfold vX12_whyFill
  rw [if_pos (b0_z2 h)]
  exact hq
theorem by_0_no {w' : bw_W} (h : by_0 S w) (hf : by_fr [64] [] w w') (e64 : ∀ k, gw_i w' 64 k = if k = 0 then gw_i w 64 0 + 1 else gw_i w 64 k) : by_0 (st_no S 0) w' := by
  obtain ⟨h1, h2, h3, h4, h5, h6, h7, h8⟩ := h
  refine ⟨h1.fr hf (by decide) (by decide), h2.fr hf (by decide) (by decide) (by decide), by rw [hf.l (by decide) (by decide)]; exact h3, by rw [hf.i5 (by decide)]; exact h4, by rw [hf.i5 (by decide)]; exact h5, h6.fr hf (by decide) (by decide) (by decide) (by decide), fun i hi => ?_, h8⟩
  show gw_i w' 64 i = bm_set (st_R S) 0 (st_R S 0 + 1) i
  rw [e64]
  by_cases z : i = 0
  · rw [if_pos z, z, bm_set_eq, h7 0 (by decide)]
  · rw [if_neg z, bm_set_ne z]; exact h7 i hi
theorem b0_hand {s a b c : Int32} {v : Int64} (h : by_0 S w) (hq : ∀ w', by_fr [64] [] w w' → by_0 (st_no S 0) w' → Q (-1) w') : bw_ri E (d + 10) mX12_hand [.ref 50, .int s, .int a, .int b, .int c, .long v] w Q := by
  refine wfX12_hand ⟨fun v w3 => v = 0 ∧ w = w3, b0_whyNot (d := d + 6) h ⟨rfl, rfl⟩, ?_⟩
  rintro _ _ ⟨rfl, rfl⟩
  refine br_f (by decide) ⟨bm_in (k := 0) (by decide) (by decide), bm_in (k := 0) (by decide) (by decide), ?_⟩
  have f64 : by_fr [64] [] w (sw_i w 64 0 (gw_i w 64 0 + 1)) := (by_fr.rf _ _ _).si (by decide) (by decide)
  refine hq _ f64 (by_0_no h f64 (fun k => ?_))
  rw [gs_ii]
  by_cases c : k = 0
  · rw [if_pos ⟨rfl, c⟩, if_pos c]; rfl
  · rw [if_neg (fun q => c q.2), if_neg c]
theorem b0_would {a0 a1 a2 : Int32} (h : by_0 S w) (hq : Q (-1) w) : bw_ri E (d + 7) mX12_would [.ref 50, .int a0, .int a1, .int a2] w Q := by
  refine wfX12_would ⟨fun z => absurd z (b0_z2 h), fun z => absurd z (b0_z2 h), ?_⟩
  unfold vX12_whyFill
  rw [if_pos (b0_z2 h)]
  exact br_f (by decide) hq
theorem b0_tell {a0 a1 a2 : Int32} (hw : bm_wfS K S) (h : by_0 S w) (hq : ∀ w', by_fr [64] (10 :: by_tf) w w' → by_0 (st_no S 0) w' → Q (-1) w') : bw_ri E (d + 11) mX12_tell [.ref 50, .int a0, .int a1, .int a2] w Q := by
  refine wfX12_tell ⟨fun v w3 => v = by_w (bp_alone (st_t S)) ∧ by_fr [] (10 :: by_tf) w w3, ys_alone (d := d + 6) hw.1 h.1 (fun w' f => ⟨rfl, f⟩), ?_⟩
  rintro _ w3 ⟨rfl, f3⟩
  have h3 : by_0 S w3 := h.fr f3 (fun c q => by cases q) (by unfold by_sf; decide)
  refine ⟨fun v w6 => v = -1 ∧ by_fr [64] [] w3 w6 ∧ by_0 (st_no S 0) w6, b0_hand (d := d) h3 (fun w' f g => ⟨rfl, f, g⟩), ?_⟩
  rintro _ w6 ⟨rfl, f6, h6⟩
  refine br_nf rfl ?_
  rw [sw_self rfl]
  exact hq w6 ((f3.up (by decide) (by decide)).tr (f6.up (by decide) (by decide))) h6
theorem by_0_tp {t : List Nat} {w' : bw_W} (h : by_0 S w) (hf : by_fr [51] [2] w w') (hT : by_T t w') : by_0 (st_tp S t) w' := by
  obtain ⟨h1, h2, h3, h4, h5, h6, h7, h8⟩ := h
  exact ⟨hT, h2.fr hf (by decide) (by decide) (by decide), by rw [hf.l (by decide) (by decide)]; exact h3, by rw [hf.i5 (by decide)]; exact h4, by rw [hf.i5 (by decide)]; exact h5, h6.fr hf (by decide) (by decide) (by decide) (by decide), h7.fr hf (by decide), h8⟩
/-! what is kept -/
theorem b0_S (h : by_0 S w) : st_undo S = S ∧ st_image S = S ∧ st_back S = S ∧ (∀ a, st_perf S a = S) ∧ ∀ a x, st_wayz S a x = S := by
  obtain ⟨h1, h2, h3, h4, h5, h6, h7, h8, h9, h10, h11⟩ := h
  refine ⟨?_, ?_, ?_, fun a => ?_, fun a x => ?_⟩
  · unfold st_undo; rw [h10]
  · unfold st_image; rw [if_pos h8]
  · unfold st_back; rw [h11]
  · unfold st_perf
    cases bm_ix a (st_C S).length with
    | none => rfl
    | some n => dsimp only; rw [if_pos h8]
  · unfold st_wayz; rw [if_pos h8]
end NONE2
