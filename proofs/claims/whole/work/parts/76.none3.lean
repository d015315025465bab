/-! text and fault before a lexicon is taken -/
section NONE3
variable {E : bw_E} {d : Nat} {w : bw_W} {S : bm_S} {K : Nat} {Q : Int32 → bw_W → Prop}
theorem by_0.sl {w' : bw_W} {n : Nat} (hw : bm_wfS K S) (hn : (st_C S).length ≤ n) (h : by_0 S w) (hf : by_fr [60, 61, 62] by_tw w w') (k1 : ∀ j, j ≠ n → gw_i w' 62 j = gw_i w 62 j) (k2 : ∀ j, ¬ (48 * n ≤ j ∧ j < 48 * n + 48) → gw_i w' 60 j = gw_i w 60 j) (k3 : ∀ j, ¬ (12 * n ≤ j ∧ j < 12 * n + 12) → gw_l w' 61 j = gw_l w 61 j) : by_0 S w' := by
  obtain ⟨h1, h2, h3, h4, h5, h6, h7, h8⟩ := h
  refine ⟨h1.fr hf (by decide) (by decide), h2.fr hf (by decide) (by decide) (by decide), by rw [hf.l (by decide) (by decide)]; exact h3, by rw [hf.i5 (by decide)]; exact h4, by rw [hf.i5 (by decide)]; exact h5, ⟨by rw [hf.i5 (by decide)]; exact h6.1, fun m hm => ?_⟩, h7.fr hf (by decide), h8⟩
  rw [k1 m (by omega)]
  refine ⟨(h6.2 m hm).1, fun i hi => ?_⟩
  have o := (h6.2 m hm).2 i hi
  have := (hw.2.2.2.2.2.2.2 m hm).2.1
  unfold by_st at o ⊢
  rw [k2 _ (by omega), k2 _ (by omega), k2 _ (by omega), k2 _ (by omega), k3 _ (by omega)]; exact o
theorem by_0.lx {w' : bw_W} (h : by_0 S w) (hf : by_fr by_ll by_lf w w') : by_0 S w' := h.fr hf (by unfold by_sc; decide) (by unfold by_sf; decide)
theorem b0_fault {a : Int32} (hw : bm_wfS K S) (h : by_0 S w) (hq : ∀ w', by_fr by_txl by_txf w w' → by_0 S w' → Q (br_fault S a) w') : bw_ri E (d + 9) mX12_fault [.ref 50, .int a] w Q := by
  have h4 := hw.2.2.2.2.2.2.1
  unfold br_fault at hq
  refine wfX12_fault ⟨fun z => ⟨fun z1 => ?_, fun z1 => ?_⟩, fun z => ?_⟩
  · have q := hq w (by_fr.rf _ _ _) h
    rw [if_neg z, if_neg z1] at q; exact q
  · refine ⟨Q, ys_rScript (d := d + 2) (n := 4) (by decide) hw.1 h.1 (fun w' f k1 k2 k3 _ => ?_), fun _ _ h => h⟩
    have q := hq w' (f.up (by decide) (by decide)) (h.sl hw h4 f k1 k2 k3)
    rw [if_neg z, if_pos z1] at q; exact q
  · refine ⟨Q, ys_rLex (d := d) hw.1 h.1 (fun w' f _ => ?_), fun _ _ h => h⟩
    have q := hq w' (f.up (by decide) (by decide)) (h.lx f)
    rw [if_pos z] at q; exact q
theorem b0_text {a : Int32} (hw : bm_wfS K S) (h : by_0 S w) (hq : ∀ w', by_fr by_txl by_txf w w' → (by_0 (st_text S a) w' ∨ by_S (st_text S a) w') → Q (br_text S a) w') : bw_ri E (d + 9) mX12_text [.ref 50, .int a] w Q := by
  have h4 := hw.2.2.2.2.2.2.1
  have ht := hw.1.1
  unfold br_text st_text at hq
  refine wfX12_text ⟨fun z => ⟨fun z1 => ?_, fun z1 => ?_⟩, fun z => ?_⟩
  · have q := hq w (by_fr.rf _ _ _)
    rw [if_neg z, if_neg z1, if_neg z, if_neg z1] at q; exact q (Or.inl h)
  · rw [if_neg z, if_neg z, if_pos z1, if_pos z1] at hq
    have e7 : gw_i w 50 25 = nI (st_C S).length := h.2.2.2.2.2.1.1
    rw [e7, show (4 : Int32) = nI 4 from rfl, nI_leI (a := 4) (b := (st_C S).length) (by decide) (by omega)]
    refine ⟨fun y => ?_, fun y => ?_⟩
    · rw [if_pos y, if_pos y] at hq
      exact hq w (by_fr.rf _ _ _) (Or.inl h)
    rw [if_neg y, if_neg y] at hq
    refine ⟨fun v w3 => v = br_scr (st_sc S) ∧ by_fr [60, 61, 62] by_tw w w3 ∧ by_0 S w3 ∧ by_got (st_C S).length w3 (st_sc S), ys_rScript (d := d + 2) (n := (st_C S).length) (by omega) hw.1 h.1 (fun w' f k1 k2 k3 g => ⟨rfl, f, h.sl hw (Nat.le_refl _) f k1 k2 k3, g⟩), ?_⟩
    rintro _ w3 ⟨rfl, f3, h3, g3⟩
    have o := st_sc_ok (S := S)
    cases e : st_sc S with
    | inl e0 =>
      rw [e] at hq o
      have he : e0 ≤ (st_t S).length := o
      exact br_nt (nI_ne_m1 (by omega)) (hq w3 (f3.up (by decide) (by decide)) (Or.inl h3))
    | inr L =>
      rw [e] at hq o g3
      dsimp only at hq
      refine br_nf rfl ?_
      obtain ⟨k1, k2, k3, k4, k5, k6, k7, k8⟩ := h3
      rw [k6.1, Int32.add_sub_cancel, nI_1]
      generalize hw4 : sw_i (sw_i w3 50 2 0) 50 25 (nI ((st_C S).length + 1)) = w4
      have f4 : by_fr [] [2, 25] w3 w4 := by rw [← hw4]; exact ((by_fr.rf _ _ _).s5 (by decide)).s5 (by decide)
      refine hq w4 ((f3.up (by decide) (by decide)).tr (f4.up (by decide) (by decide))) (Or.inl ⟨⟨?_, fun i hi => absurd hi (Nat.not_lt_zero i)⟩, k2.fr f4 (fun c q => by cases q) (by decide) (by decide), by rw [f4.l (by decide) (by decide)]; exact k3, by rw [f4.i5 (by decide)]; exact k4, by rw [f4.i5 (by decide)]; exact k5, ⟨?_, fun n hn => ?_⟩, k7.fr f4 (by decide), k8⟩)
      · rw [← hw4, gs_ii, if_neg (by omega), gs_ii, if_pos ⟨rfl, rfl⟩]; rfl
      · show gw_i w4 50 25 = nI (st_C S ++ [L]).length
        rw [List.length_append, ← hw4, gs_ii, if_pos ⟨rfl, rfl⟩]; rfl
      · have hn' : n < (st_C S ++ [L]).length := hn
        rw [List.length_append] at hn'
        have hn2 : n < (st_C S).length + 1 := hn'
        show gw_i w4 62 n = nI (bm_s (st_C S ++ [L]) n).length ∧ ∀ i, i < (bm_s (st_C S ++ [L]) n).length → by_st (bm_p (bm_s (st_C S ++ [L]) n) i) (12 * n + i) w4
        rw [bm_s_app hn2, f4.i (by decide) (by decide)]
        by_cases x : n = (st_C S).length
        · rw [if_pos x, x]
          exact ⟨g3.1, fun i hi => (g3.2 i hi).fr f4 (by decide) (by decide)⟩
        · rw [if_neg x]
          exact ⟨(k6.2 n (by omega)).1, fun i hi => ((k6.2 n (by omega)).2 i hi).fr f4 (by decide) (by decide)⟩
  · rw [if_pos z, if_pos z] at hq
    have n1 : ¬ a = 1 := by rw [z]; decide
    refine ⟨fun v w3 => v = br_lex (st_lx S) ∧ by_fr by_ll by_lf w w3 ∧ by_gotL w3 (st_lx S), ys_rLex (d := d) hw.1 h.1 (fun w' f g => ⟨rfl, f, g⟩), ?_⟩
    rintro _ w3 ⟨rfl, f3, g3⟩
    have h3 := h.lx f3
    have o := st_lx_ok (S := S)
    cases e : st_lx S with
    | inl e0 =>
      rw [e] at hq o
      have he : e0 ≤ (st_t S).length := o
      exact br_nt (nI_ne_m1 (by omega)) (br_nt n1 (hq w3 (f3.up (by decide) (by decide)) (Or.inl h3)))
    | inr D =>
      rw [e] at hq o g3
      dsimp only at hq
      have f4 : by_fr [] [2] w3 (sw_i w3 50 2 0) := (by_fr.rf _ _ _).s5 (by decide)
      have g4 : by_D D (sw_i w3 50 2 0) := by_D.fr g3 f4 (fun c q => by cases q) (by decide) (by decide)
      refine br_nf rfl ⟨Q, ys_take (d := d + 8) o.1 g4 (fun w' f x5 n5 e42 e51 => ?_), fun _ _ h => h⟩
      have f4t : gw_i w' 50 2 = 0 := by rw [f.i5 (by decide), gs_ii, if_pos ⟨rfl, rfl⟩]
      refine hq w' (((f3.up (by decide) (by decide)).tr (f4.up (by decide) (by decide))).tr (f.up (by decide) (by decide))) (Or.inr ⟨⟨f4t, fun i hi => absurd hi (Nat.not_lt_zero i)⟩, x5, n5, ⟨e42, fun j hj => absurd hj (Nat.not_lt_zero j)⟩, ⟨e51, fun p hp => by cases hp⟩, ?_, ?_⟩)
      · exact (h3.2.2.2.2.2.1.fr f4 (by decide) (by decide) (by decide) (by decide)).fr f (by decide) (by decide) (by decide) (by decide)
      · exact (h3.2.2.2.2.2.2.1.fr f4 (by decide)).fr f (by decide)
end NONE3
