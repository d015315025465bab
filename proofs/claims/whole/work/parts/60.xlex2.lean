/-! items, messages, clauses, the whole text -/
section XLEX2
variable {E : bw_E} {d : Nat} {w : bw_W} {t : List Nat} {D : bd_D}
theorem bm_sgn_sg : ∀ c, c < 256 → (bm_sgn c ≠ 0 → c = bm_sg (bm_sgn c)) ∧ bm_sgn c ≤ 6 ∧ (bm_sgn c = 4 ↔ c = 36) ∧ (bm_sgn c = 5 ↔ c = 61) ∧ (bm_sgn c = 6 ↔ c = 33) := by decide +kernel
theorem xs_isign {Q : Bool → bw_W → Prop} {c : Nat} (hc : c < 256) (hq : Q (decide (bm_sgn c ≠ 0)) w) : bw_rb E (d + 0) mX4_isItemSign [.int (nI c)] w Q := by
  refine wfX4_isItemSign ?_
  rw [show (33 : Int32) = nI 33 from rfl, show (35 : Int32) = nI 35 from rfl, show (36 : Int32) = nI 36 from rfl, show (37 : Int32) = nI 37 from rfl, show (61 : Int32) = nI 61 from rfl, show (64 : Int32) = nI 64 from rfl, nI_eq (b := 33) (by omega) (by decide), nI_eq (b := 35) (by omega) (by decide), nI_eq (b := 36) (by omega) (by decide), nI_eq (b := 37) (by omega) (by decide), nI_eq (b := 61) (by omega) (by decide), nI_eq (b := 64) (by omega) (by decide)]
  have y : bm_sgn c ≠ 0 → Q true w := fun z => by rw [decide_eq_true z] at hq; exact hq
  refine ⟨fun z => y (by rw [z]; decide), fun z => y (by rw [z]; decide), fun z => y (by rw [z]; decide), fun z => y (by rw [z]; decide), fun z => y (by rw [z]; decide), fun z => y (by rw [z]; decide), fun a1 a2 a3 a4 a5 a6 => ?_⟩
  have e : bm_sgn c = 0 := by unfold bm_sgn; rw [if_neg a2, if_neg a6, if_neg a4, if_neg a3, if_neg a5, if_neg a1]
  rw [e] at hq; exact hq
/-- the k-th item is read; no other -/
def bx_i1 (k : Nat) (w w' : bw_W) : Prop := bw_fr [3, 13, 14, 15, 16] w w' ∧ ∀ j, j ≠ k → gw_i w' 13 j = gw_i w 13 j ∧ gw_i w' 14 j = gw_i w 14 j ∧ gw_i w' 15 j = gw_i w 15 j ∧ gw_l w' 16 j = gw_l w 16 j
theorem bx_i1.rf (k : Nat) (w : bw_W) : bx_i1 k w w := ⟨bw_fr.rf _ _, fun _ _ => ⟨rfl, rfl, rfl, rfl⟩⟩
theorem bx_i1.f3 {k : Nat} {w w' w2 : bw_W} (h : bx_i1 k w w') (hf : bw_fr [3] w' w2) : bx_i1 k w w2 := ⟨h.1.tr (hf.up (by decide)), fun j hj => by rw [hf.i (by decide), hf.i (by decide), hf.i (by decide), hf.l (by decide)]; exact h.2 j hj⟩
theorem bx_i1.si {k c : Nat} {v : Int32} {w w' : bw_W} (h : bx_i1 k w w') (hc : c = 13 ∨ c = 14 ∨ c = 15) : bx_i1 k w (sw_i w' c k v) := by
  refine ⟨h.1.si (by rcases hc with rfl | rfl | rfl <;> decide), fun j hj => ?_⟩
  rw [gs_ii, if_neg (fun z => hj z.2), gs_ii, if_neg (fun z => hj z.2), gs_ii, if_neg (fun z => hj z.2), gs_li]; exact h.2 j hj
theorem bx_i1.sl {k : Nat} {v : Int64} {w w' : bw_W} (h : bx_i1 k w w') : bx_i1 k w (sw_l w' 16 k v) := by
  refine ⟨h.1.sl (by decide), fun j hj => ?_⟩
  rw [gs_il, gs_il, gs_il, gs_ll, if_neg (fun z => hj z.2)]; exact h.2 j hj
theorem bx_i1.s3 {k a : Nat} {v : Int32} {w w' : bw_W} (h : bx_i1 k w w') : bx_i1 k w (sw_i w' 3 a v) := h.f3 ((bw_fr.rf _ _).si (by decide))
def bx_ri (t : List Nat) (k : Nat) (w : bw_W) : Nat ⊕ ((Nat × Nat × Nat × List Nat) × Nat) → Bool → Prop
  | .inl e, b => b = false ∧ gw_i w 3 3 = nI e
  | .inr (x, q), b => b = true ∧ bx_C t q w ∧ bx_itd x k w
theorem bx_fitc : ∀ c, c < 256 → fits .char (.int (nI c)) = true ∧ vp_nar .char (nI c) = nI c := by decide +kernel
theorem xs_ritem {Q : Bool → bw_W → Prop} {q k : Nat} (hk : k < 32) (ht : bm_wfT t) (hT : bx_T t w) (hZ : bx_Z w) (hC : bx_C t q w) (hq : ∀ b w', bx_i1 k w w' → bx_Z w' → bx_ri t k w' (bl_item t q) b → Q b w') : bw_rb E (d + 2) mX4_readItem [.ref 4, .int (nI k)] w Q := by
  have hpl := hC.pl
  have hb := bm_b_lt q ht
  have hs := bm_sgn_sg (bm_b t q) hb
  have ik : vp_in (nI k) 32 := bm_in hk (by decide)
  unfold bl_item at hq
  refine wfX4_readItem ⟨fun v w3 => v = nI (bm_b t q) ∧ w3 = sw_i w 3 1 (nI q), xs_sign (d := d) ht hT hC ⟨rfl, rfl⟩, ?_⟩
  rintro _ _ ⟨rfl, rfl⟩
  refine ⟨fun v w6 => v = decide (bm_sgn (bm_b t q) ≠ 0) ∧ sw_i w 3 1 (nI q) = w6, xs_isign (d := d + 1) hb ⟨rfl, rfl⟩, ?_⟩
  rintro _ _ ⟨rfl, rfl⟩
  rw [nI_clamp (by omega)]
  have f0 : bw_fr [3] w (sw_i w 3 1 (nI q)) := (bw_fr.rf _ _).si (by decide)
  have a0 : gw_i (sw_i w 3 1 (nI q)) 3 1 = nI q := by rw [gs_ii, if_pos ⟨rfl, rfl⟩]
  have i0 : bx_i1 k w (sw_i w 3 1 (nI q)) := (bx_i1.rf k w).s3
  by_cases c0 : bm_sgn (bm_b t q) = 0
  · rw [if_pos c0] at hq
    rw [decide_eq_false (fun z => z c0)]
    refine ⟨fun z => absurd z br_ft, fun _ => ⟨_, xs_word (d := d) (Q := fun v w3 => (v = false → bp_word t q = none ∧ bw_fr [3] (sw_i w 3 1 (nI q)) w3 ∧ gw_i w3 3 3 = nI q) ∧ (v = true → ∃ u q2, bp_word t q = some (u, q2) ∧ bw_fr [3] (sw_i w 3 1 (nI q)) w3 ∧ gw_l w3 3 5 = bx_w u ∧ bx_C t q2 w3)) ht (hT.fr f0 (by decide) (by decide)) (bx_C_at hpl.1 hpl.2 a0) (fun e w' f g _ => ⟨fun _ => ⟨e, f, g⟩, fun z => absurd z br_ft⟩) (fun u q' e w' f _ _ g5 c => ⟨fun z => absurd z br_tf, fun _ => ⟨u, q', e, f, g5, c⟩⟩), ?_⟩⟩
    rintro v27 w28 ⟨hno, hyes⟩
    refine ⟨ik, ik, ?_⟩
    rw [show (119 : Int32) = nI 119 from rfl, (bx_fitc 119 (by decide)).2]
    have zz : ∀ {w9 : bw_W}, bw_fr [3] (sw_i w 3 1 (nI q)) w9 → bx_Z (sw_l (sw_i w9 13 k (nI 119)) 16 k (gw_l w9 3 5)) := fun {w9} f i hi => by
      rw [gs_il, gs_ii]
      by_cases z : i = k
      · rw [if_pos ⟨rfl, z⟩]; exact (bx_fitc 119 (by decide)).1
      · rw [if_neg (fun x => z x.2), f.i (by decide), f0.i (by decide)]; exact hZ i hi
    cases v27 with
    | false =>
      obtain ⟨e, f, g⟩ := hno rfl
      rw [e] at hq
      exact hq false _ ((i0.f3 f).si (Or.inl rfl)).sl (zz f) ⟨rfl, by rw [gs_il, gs_ii, if_neg (fun x => absurd x.1 (by decide))]; exact g⟩
    | true =>
      obtain ⟨u, q2, e, f, g5, c⟩ := hyes rfl
      rw [e] at hq
      have fc : bw_fr [13, 16] w28 (sw_l (sw_i w28 13 k (nI 119)) 16 k (gw_l w28 3 5)) := ((bw_fr.rf _ _).si (by decide)).sl (by decide)
      refine hq true _ ((i0.f3 f).si (Or.inl rfl)).sl (zz f) ⟨rfl, c.fr fc (by decide), ?_, fun _ => ?_, fun z => absurd rfl z, fun z => absurd rfl z⟩
      · rw [gs_il, gs_ii, if_pos ⟨rfl, rfl⟩]; rfl
      · rw [gs_ll, if_pos ⟨rfl, rfl⟩]; exact g5
  · rw [if_neg c0] at hq
    rw [decide_eq_true c0]
    have hlt : q < t.length := by
      rcases Nat.lt_or_ge q t.length with z | z
      · exact z
      · rw [bm_b_out z] at c0; exact absurd rfl c0
    refine ⟨fun _ => ⟨ik, ?_⟩, fun z => absurd z br_tf⟩
    rw [a0, nI_1, (bx_fitc (bm_b t q) hb).2, sw_ii]
    generalize hw7 : sw_i (sw_i w 3 1 (nI (q + 1))) 13 k (nI (bm_b t q)) = w7
    have i7 : bx_i1 k w w7 := by rw [← hw7]; exact ((bx_i1.rf k w).s3).si (Or.inl rfl)
    have z7 : bx_Z w7 := fun i hi => by
      rw [← hw7, gs_ii]
      by_cases z : i = k
      · rw [if_pos ⟨rfl, z⟩]; exact (bx_fitc _ hb).1
      · rw [if_neg (fun x => z x.2), gs_ii, if_neg (fun x => absurd x.1 (by decide))]; exact hZ i hi
    have c7 : bx_C t (bm_sk t (q + 1)) w7 := ⟨q + 1, by rw [← hw7, gs_ii, if_neg (fun x => absurd x.1 (by decide)), gs_ii, if_pos ⟨rfl, rfl⟩], hlt, rfl⟩
    have T7 : ∀ {w9 : bw_W}, bx_i1 k w w9 → bx_T t w9 := fun h => hT.fr h.1 (by decide) (by decide)
    have s7 : gw_i w7 13 k = nI (bm_b t q) := by rw [← hw7, gs_ii, if_pos ⟨rfl, rfl⟩]
    refine ⟨fun b w10 => bw_fr [3] w7 w10 ∧ bx_q t w10 (bu_num t 1 2 (.inr (bm_sk t (q + 1)))).2 b ∧ (b = true → gw_i w10 3 2 = nI (bm_sk t (q + 1)) ∧ gw_i w10 3 4 = nI (bu_num t 1 2 (.inr (bm_sk t (q + 1)))).1), xs_numU (d := d) (m := 1) (hi := 2) (by decide) (by decide) ht (T7 i7) c7 (fun b w' f g k => ⟨f, g, k⟩), ?_⟩
    rintro b w10 ⟨f10, q10, k10⟩
    have hv1 : (bu_num t 1 2 (.inr (bm_sk t (q + 1)))).1 ≤ 2 := by
      cases e : bp_num t (bm_sk t (q + 1)) 1 2 with
      | none => rw [bu_num_n e]; exact Nat.zero_le _
      | some r => obtain ⟨v, q'⟩ := r; rw [bu_num_s e]; exact (bp_num_some c7.pl.1 e).1
    cases e1 : (bu_num t 1 2 (.inr (bm_sk t (q + 1)))).2 with
    | inl e0 =>
      rw [e1] at q10 hq
      obtain ⟨rfl, g33⟩ := q10
      exact ⟨fun z => absurd z br_ft, fun _ => hq false w10 (i7.f3 f10) (z7.fr f10 (by decide)) ⟨rfl, g33⟩⟩
    | inr q2 =>
      rw [e1] at q10 hq
      obtain ⟨rfl, c10⟩ := q10
      dsimp only at hq
      refine ⟨fun _ => ⟨ik, ?_⟩, fun z => absurd z br_tf⟩
      rw [(k10 rfl).2]
      generalize hh : (bu_num t 1 2 (.inr (bm_sk t (q + 1)))).1 = hv at hq hv1 ⊢
      generalize hw11 : sw_i w10 14 k (nI hv) = w11
      have f11 : bw_fr [14] w10 w11 := by rw [← hw11]; exact (bw_fr.rf _ _).si (by decide)
      have i11 : bx_i1 k w w11 := by rw [← hw11]; exact (i7.f3 f10).si (Or.inr (Or.inl rfl))
      have z11 : bx_Z w11 := (z7.fr f10 (by decide)).fr f11 (by decide)
      have c11 : bx_C t q2 w11 := c10.fr f11 (by decide)
      have s11 : gw_i w11 13 k = nI (bm_b t q) := by rw [f11.i (by decide), f10.i (by decide)]; exact s7
      have h11 : gw_i w11 14 k = nI hv := by rw [← hw11, gs_ii, if_pos ⟨rfl, rfl⟩]
      have es : nI (bm_b t q) = nI (bm_sg (bm_sgn (bm_b t q))) := by rw [← hs.1 c0]
      rw [show (36 : Int32) = nI 36 from rfl, show (61 : Int32) = nI 61 from rfl, show (33 : Int32) = nI 33 from rfl, nI_eq (b := 36) (by omega) (by decide), nI_eq (b := 61) (by omega) (by decide), nI_eq (b := 33) (by omega) (by decide), ← hs.2.2.1, ← hs.2.2.2.1, ← hs.2.2.2.2]
      by_cases c4 : bm_sgn (bm_b t q) = 4
      · rw [if_pos c4] at hq
        refine br_nf c4 (hq true w11 i11 z11 ⟨rfl, c11, ?_, fun z => (by cases z), fun _ => h11, fun _ z => absurd rfl z⟩)
        rw [s11, es, c4]
      · rw [if_neg c4] at hq
        refine br_nt c4 ?_
        have two : ∀ {w14 : bw_W} {b : Bool} {hi : Nat}, bw_fr [3] w11 w14 → bx_q t w14 (bu_num t 1 hi (.inr q2)).2 b → bp_num t q2 1 hi = none → b = false ∧ gw_i w14 3 3 = nI q2 := fun {w14 b hi} f g e => by rw [bu_num_n e] at g; exact g
        have fin : ∀ {w14 : bw_W} {v q3 : Nat}, bw_fr [3] w11 w14 → gw_i w14 3 4 = nI v → bx_C t q3 w14 → (¬ ((bm_sgn (bm_b t q) = 5 ∨ bm_sgn (bm_b t q) = 6) ∧ v = hv)) → bx_i1 k w (sw_i w14 15 k (nI v)) ∧ bx_Z (sw_i w14 15 k (nI v)) ∧ bx_ri t k (sw_i w14 15 k (nI v)) (.inr ((bm_sgn (bm_b t q), hv, v, []), q3)) true := fun {w14 v q3} f g c _ => by
          have f15 : bw_fr [15] w14 (sw_i w14 15 k (nI v)) := (bw_fr.rf _ _).si (by decide)
          refine ⟨(i11.f3 f).si (Or.inr (Or.inr rfl)), (z11.fr f (by decide)).fr f15 (by decide), rfl, c.fr f15 (by decide), ?_, fun z => absurd z c0, fun _ => ?_, fun _ _ => ?_⟩
          · rw [f15.i (by decide), f.i (by decide), s11, es]
          · rw [f15.i (by decide), f.i (by decide)]; exact h11
          · rw [gs_ii, if_pos ⟨rfl, rfl⟩]
        have pair : bm_sgn (bm_b t q) = 5 ∨ bm_sgn (bm_b t q) = 6 → ∃ Q12 : Bool → bw_W → Prop, bw_rb E (d + 1) mX0_takeNumber [.ref 3, .int 1, .int 2] w11 Q12 ∧ ∀ v13 w14, Q12 v13 w14 → ((v13 = true → (vp_in (nI k) 32) ∧ (vp_in (nI k) 32) ∧ ((¬ (gw_i w14 3 4) = (gw_i w14 14 k) → Q true (sw_i w14 15 k (gw_i w14 3 4))) ∧ ((gw_i w14 3 4) = (gw_i w14 14 k) → ((¬ False → Q false (sw_i (sw_i w14 15 k (gw_i w14 3 4)) 3 3 (gw_i w14 3 2))) ∧ (False → Q true (sw_i (sw_i w14 15 k (gw_i w14 3 4)) 3 3 (gw_i w14 3 2))))))) ∧ (v13 = false → Q false w14)) := fun c5 => by
          rw [if_pos c5] at hq
          refine ⟨fun b w14 => bw_fr [3] w11 w14 ∧ bx_q t w14 (bu_num t 1 2 (.inr q2)).2 b ∧ (b = true → gw_i w14 3 2 = nI q2 ∧ gw_i w14 3 4 = nI (bu_num t 1 2 (.inr q2)).1), xs_numU (d := d) (m := 1) (hi := 2) (by decide) (by decide) ht (T7 i11) c11 (fun b w' f g k => ⟨f, g, k⟩), ?_⟩
          rintro b w14 ⟨f14, q14, k14⟩
          cases e3 : bp_num t q2 1 2 with
          | none =>
            obtain ⟨rfl, g33⟩ := two f14 q14 e3
            rw [e3] at hq
            exact ⟨fun z => absurd z br_ft, fun _ => hq false w14 (i11.f3 f14) (z11.fr f14 (by decide)) ⟨rfl, g33⟩⟩
          | some s =>
            obtain ⟨v, q3⟩ := s
            rw [e3] at hq
            rw [bu_num_s e3] at q14 k14
            obtain ⟨rfl, c14⟩ := q14
            have k4 := (k14 rfl).2
            dsimp only at hq k4
            have hv2 := (bp_num_some c11.pl.1 e3).1
            refine ⟨fun _ => ⟨ik, ik, ?_⟩, fun z => absurd z br_tf⟩
            rw [k4, (k14 rfl).1, f14.i (show 14 ∉ [3] by decide), h11, nI_eq (by omega) (by omega)]
            refine ⟨fun z => ?_, fun z => br_nn ?_⟩
            · have nz : ¬ ((bm_sgn (bm_b t q) = 5 ∨ bm_sgn (bm_b t q) = 6) ∧ v = hv) := fun x => z x.2
              rw [if_neg nz] at hq
              obtain ⟨a1, a2, a3⟩ := fin f14 k4 c14 nz
              exact hq true _ a1 a2 a3
            · rw [if_pos ⟨c5, z⟩] at hq
              have f15 : bw_fr [15] w14 (sw_i w14 15 k (nI v)) := (bw_fr.rf _ _).si (by decide)
              have f16 : bw_fr [3] (sw_i w14 15 k (nI v)) (sw_i (sw_i w14 15 k (nI v)) 3 3 (nI q2)) := (bw_fr.rf _ _).si (by decide)
              exact hq false _ (((i11.f3 f14).si (Or.inr (Or.inr rfl))).f3 f16) (((z11.fr f14 (by decide)).fr f15 (by decide)).fr f16 (by decide)) ⟨rfl, by rw [gs_ii, if_pos ⟨rfl, rfl⟩]⟩
        by_cases c5 : bm_sgn (bm_b t q) = 5
        · exact br_t c5 (pair (Or.inl c5))
        · refine br_f c5 ?_
          by_cases c6 : bm_sgn (bm_b t q) = 6
          · exact br_nf c6 (pair (Or.inr c6))
          · have n56 : ¬ (bm_sgn (bm_b t q) = 5 ∨ bm_sgn (bm_b t q) = 6) := fun z => z.elim c5 c6
            rw [if_neg n56] at hq
            refine br_nt c6 ⟨fun b w14 => bw_fr [3] w11 w14 ∧ bx_q t w14 (bu_num t 1 3 (.inr q2)).2 b ∧ (b = true → gw_i w14 3 2 = nI q2 ∧ gw_i w14 3 4 = nI (bu_num t 1 3 (.inr q2)).1), xs_numU (d := d) (m := 1) (hi := 3) (by decide) (by decide) ht (T7 i11) c11 (fun b w' f g k => ⟨f, g, k⟩), ?_⟩
            rintro b w14 ⟨f14, q14, k14⟩
            cases e3 : bp_num t q2 1 3 with
            | none =>
              obtain ⟨rfl, g33⟩ := two f14 q14 e3
              rw [e3] at hq
              exact ⟨fun z => absurd z br_ft, fun _ => hq false w14 (i11.f3 f14) (z11.fr f14 (by decide)) ⟨rfl, g33⟩⟩
            | some s =>
              obtain ⟨v, q3⟩ := s
              rw [e3] at hq
              rw [bu_num_s e3] at q14 k14
              obtain ⟨rfl, c14⟩ := q14
              have k4 := (k14 rfl).2
              dsimp only at hq k4
              have nz : ¬ ((bm_sgn (bm_b t q) = 5 ∨ bm_sgn (bm_b t q) = 6) ∧ v = hv) := fun x => n56 x.1
              rw [if_neg nz] at hq
              refine ⟨fun _ => ⟨ik, ?_⟩, fun z => absurd z br_tf⟩
              rw [k4]
              obtain ⟨a1, a2, a3⟩ := fin f14 k4 c14 nz
              exact hq true _ a1 a2 a3
theorem xs_clEnd {Q : Bool → bw_W → Prop} {q : Nat} (ht : bm_wfT t) (hT : bx_T t w) (hC : bx_C t q w) (hq : Q (decide (t.length ≤ q ∨ bm_b t q = 59)) (sw_i w 3 1 (nI q))) : bw_rb E (d + 2) mX4_isAtClauseEnd [.ref 4] w Q := by
  have hb := bm_b_lt q ht
  refine wfX4_isAtClauseEnd ⟨fun v w3 => v = nI (bm_b t q) ∧ w3 = sw_i w 3 1 (nI q), xs_sign (d := d) ht hT hC ⟨rfl, rfl⟩, ?_⟩
  rintro _ _ ⟨rfl, rfl⟩
  rw [nI_z (by omega), show (59 : Int32) = nI 59 from rfl, nI_eq (by omega) (by decide)]
  have z0 : bm_b t q = 0 ↔ t.length ≤ q := ⟨fun z => by
    rcases Nat.lt_or_ge q t.length with y | y
    · have := (bm_b_in ht y).1; omega
    · exact y, fun z => bm_b_out z⟩
  rw [z0]
  refine ⟨fun z => ?_, fun z => ⟨fun y => ?_, fun y => ?_⟩⟩
  · rw [decide_eq_true (Or.inl z)] at hq; exact hq
  · rw [decide_eq_false (fun x => x.elim z y)] at hq; exact hq
  · rw [decide_eq_true (Or.inr y)] at hq; exact hq
theorem bx_D_setI {w' : bw_W} {k : Nat} {x : Nat × Nat × Nat × List Nat} (hd : bd_wf D) (hD : bx_D D w) (hk : 8 * bm_nm (dd_X D) ≤ k) (hf : bx_i1 k w w') : bx_D (bd_setI D k x) w' := by
  unfold bx_D
  rw [hf.1.i (by decide), hf.1.i (by decide)]
  refine ⟨hD.1, hD.2.1, fun i hi => ?_, fun j hj => ?_, fun j hj => ?_, fun m hm => ⟨?_, ?_, fun i hi => ?_⟩⟩
  · rw [hf.1.l (by decide), hf.1.i (by decide)]; exact hD.2.2.1 i hi
  · rw [hf.1.l (by decide)]; exact hD.2.2.2.1 j hj
  · rw [hf.1.l (by decide), hf.1.l (by decide)]; exact hD.2.2.2.2.1 j hj
  · rw [hf.1.l (by decide)]; exact (hD.2.2.2.2.2 m hm).1
  · rw [hf.1.i (by decide)]; exact (hD.2.2.2.2.2 m hm).2.1
  · have hm' : m < bm_nm (dd_X D) := hm
    have hi' : i < bm_cnt (dd_X D) m := hi
    have h8 := (hd.2.2.2.2.1 m hm).2.1
    show bx_itd (bm_set (bm_it (dd_X D)) k x (8 * m + i)) (8 * m + i) w'
    rw [bm_set_ne (by omega)]
    obtain ⟨a1, a2, a3, a4⟩ := hf.2 (8 * m + i) (by omega)
    unfold bx_itd
    rw [a1, a2, a3, a4]; exact (hD.2.2.2.2.2 m hm).2.2 i hi
theorem xs_rmsg {Q : Bool → bw_W → Prop} {q q1 : Nat} (ht : bm_wfT t) (hT : bx_T t w) (hd : bd_wf D) (hD : bx_D D w) (hZ : bx_Z w) (hC : bx_C t q1 w) (hq : ∀ b w', bw_fr bx_dl w w' → bx_Z w' → bx_r t w' (bl_msg t q q1 D) b → Q b w') : bw_rb E (d + 3) mX4_readMessage [.ref 4, .int (nI q)] w Q := by
  have h4 := hd.2.1
  unfold bl_msg at hq
  refine wfX4_readMessage ?_
  rw [hD.2.1, nl_4, nI_ltI (by omega) (by decide)]
  refine ⟨fun z => ?_, fun z => ?_⟩
  rotate_left
  · rw [if_pos (by omega)] at hq
    have f9 : bw_fr [3] w (sw_i w 3 3 (nI q)) := (bw_fr.rf _ _).si (by decide)
    exact hq false _ (f9.up (by decide)) (hZ.fr f9 (by decide)) (Or.inl ⟨rfl, by rw [gs_ii, if_pos ⟨rfl, rfl⟩]⟩)
  rw [if_neg (by omega)] at hq
  refine ⟨_, xs_word (d := d + 1) (Q := fun v w3 => (v = false → bp_word t q1 = none ∧ bw_fr [3] w w3 ∧ gw_i w3 3 3 = nI q1) ∧ (v = true → ∃ u q2, bp_word t q1 = some (u, q2) ∧ bw_fr [3] w w3 ∧ gw_i w3 3 2 = nI q1 ∧ gw_l w3 3 5 = bx_w u ∧ bx_C t q2 w3)) ht hT hC (fun e w' f g _ => ⟨fun _ => ⟨e, f, g⟩, fun z => absurd z br_ft⟩) (fun u q' e w' f g2 _ g5 c => ⟨fun z => absurd z br_tf, fun _ => ⟨u, q', e, f, g2, g5, c⟩⟩), ?_⟩
  rintro v2 w3 ⟨hno, hyes⟩
  refine ⟨fun y => ?_, fun y => ?_⟩
  rotate_left
  · obtain ⟨e, f, g⟩ := hno y
    rw [e] at hq
    exact hq false w3 (f.up (by decide)) (hZ.fr f (by decide)) (Or.inl ⟨rfl, g⟩)
  obtain ⟨u, q2, e, f3, g2, g5, c3⟩ := hyes y
  rw [e] at hq
  dsimp only at hq
  have o := bp_word_some hC.pl.1 e
  have hD3 := hD.f3 f3
  rw [g5]
  refine ⟨fun v w6 => v = (match bd_fi (dd_t D) u (bm_nm (dd_X D)) 0 with | none => -1 | some i => nI i) ∧ w3 = w6, xs_mnamed (d := d + 2) hD3 hd o.1 ⟨rfl, rfl⟩, ?_⟩
  rintro _ _ ⟨rfl, rfl⟩
  cases e2 : bd_fi (dd_t D) u (bm_nm (dd_X D)) 0 with
  | some i =>
    have hi := bd_fi_some e2
    rw [e2] at hq
    have f9 : bw_fr [3] w3 (sw_i w3 3 3 (gw_i w3 3 2)) := (bw_fr.rf _ _).si (by decide)
    refine br_f (nI_ne_m1 (by omega)) (hq false _ ((f3.tr f9).up (by decide)) ((hZ.fr f3 (by decide)).fr f9 (by decide)) (Or.inl ⟨rfl, by rw [gs_ii, if_pos ⟨rfl, rfl⟩]; exact g2⟩))
  | none =>
    rw [e2] at hq
    dsimp only at hq
    refine br_t rfl ⟨bm_in (by omega) (by decide), ?_⟩
    rw [nI_clamp (by omega), g5]
    generalize hm : bm_nm (dd_X D) = mm at *
    generalize hw4 : sw_l w3 11 mm (bx_w u) = w4
    have f4 : bw_fr [11] w3 w4 := by rw [← hw4]; exact (bw_fr.rf _ _).sl (by decide)
    have t4 : ∀ j, gw_l w4 11 j = if j = mm then bx_w u else gw_l w3 11 j := fun j => by
      rw [← hw4, gs_ll]
      by_cases x : j = mm
      · rw [if_pos ⟨rfl, x⟩, if_pos x]
      · rw [if_neg (fun y => x y.2), if_neg x]
    have hD4 : bx_D D w4 := by
      unfold bx_D
      rw [f4.i (by decide), f4.i (by decide)]
      refine ⟨hD3.1, hD3.2.1, fun i hi => ?_, fun j hj => ?_, fun j hj => ?_, fun m hm2 => ⟨?_, ?_, fun i hi => ?_⟩⟩
      · rw [f4.l (by decide), f4.i (by decide)]; exact hD3.2.2.1 i hi
      · rw [f4.l (by decide)]; exact hD3.2.2.2.1 j hj
      · rw [f4.l (by decide), f4.l (by decide)]; exact hD3.2.2.2.2.1 j hj
      · rw [t4, if_neg (by omega)]; exact (hD3.2.2.2.2.2 m hm2).1
      · rw [f4.i (by decide)]; exact (hD3.2.2.2.2.2 m hm2).2.1
      · exact ((hD3.2.2.2.2.2 m hm2).2.2 i hi).fr f4 (by decide) (by decide) (by decide) (by decide)
    have f34 : bw_fr bx_dl w w4 := (f3.up (by decide)).tr (f4.up (by decide))
    generalize hR : bl_items t mm 8 0 q2 D = R at hq
    have key : ∀ n i qq (D' : bd_D) (w' : bw_W), i + n = 8 → bd_wf D' → bm_nm (dd_X D') = mm → bx_D D' w' → gw_l w' 11 mm = bx_w u → dd_t D' = dd_t D → bm_cnt (dd_X D') = bm_cnt (dd_X D) → bx_C t qq w' → bx_Z w' → bw_fr bx_dl w w' → (∀ j, j < i → bx_itd (bm_it (dd_X D') (8 * mm + j)) (8 * mm + j) w') → R = bl_items t mm n i qq D' → bw_G E (d + 3) mX4_readMessage 85 [some (.ref 4), some (.int (nI q)), some (.int (nI mm)), some (.int (nI i))] [] w' (bw_qb Q) := by
      have done : ∀ i qq (D' : bd_D) (w' : bw_W), i ≤ 8 → bd_wf D' → bm_nm (dd_X D') = mm → bx_D D' w' → gw_l w' 11 mm = bx_w u → bx_C t qq w' → bx_Z w' → bw_fr bx_dl w w' → (∀ j, j < i → bx_itd (bm_it (dd_X D') (8 * mm + j)) (8 * mm + j) w') → R = .inr (D', i, qq) ∨ (R = .inl qq ∧ ¬ t.length ≤ qq ∧ bm_b t qq ≠ 59) → Q true (sw_i (sw_i w' 12 mm (nI i)) 5 6 (gw_i w' 5 6 + 1)) := by
        intro i qq D' w' h8 hd' hmm hD' g11 hC' hZ' f' hit hgo
        rw [hD'.2.1, hmm, nI_1]
        have fF : bw_fr [5, 12] w' (sw_i (sw_i w' 12 mm (nI i)) 5 6 (nI (mm + 1))) := ((bw_fr.rf _ _).si (by decide)).si (by decide)
        rcases hgo with hgo | ⟨hgo, n1, n2⟩
        · rw [hgo] at hq
          refine hq true _ (f'.tr (fF.up (by decide))) (hZ'.fr fF (by decide)) ⟨rfl, hC'.fr fF (by decide), ?_⟩
          refine ⟨?_, ?_, fun j hj => ?_, fun j hj => ?_, fun j hj => ?_, fun m hm2 => ?_⟩
          · rw [gs_ii, if_neg (fun x => absurd x.2 (by decide)), gs_ii, if_neg (fun x => absurd x.1 (by decide))]; exact hD'.1
          · rw [gs_ii, if_pos ⟨rfl, rfl⟩]; show _ = nI (bm_nm (dd_X D') + 1); rw [hmm]
          · rw [fF.l (by decide), fF.i (by decide)]; exact hD'.2.2.1 j hj
          · rw [fF.l (by decide)]; exact hD'.2.2.2.1 j hj
          · rw [fF.l (by decide), fF.l (by decide)]; exact hD'.2.2.2.2.1 j hj
          · have hm3 : m < bm_nm (dd_X D') + 1 := hm2
            show _ = bx_w (bm_set (dd_t D') (bm_nm (dd_X D')) u m) ∧ _ = nI (bm_set (bm_cnt (dd_X D')) (bm_nm (dd_X D')) i m) ∧ ∀ j, j < bm_set (bm_cnt (dd_X D')) (bm_nm (dd_X D')) i m → bx_itd (bm_it (dd_X D') (8 * m + j)) (8 * m + j) _
            rw [fF.l (by decide), gs_ii, if_neg (fun x => absurd x.1 (by decide)), gs_ii, hmm]
            by_cases x : m = mm
            · rw [if_pos ⟨rfl, x⟩, x, bm_set_eq, bm_set_eq]
              exact ⟨g11, rfl, fun j hj => (hit j hj).fr fF (by decide) (by decide) (by decide) (by decide)⟩
            · rw [if_neg (fun y => x y.2), bm_set_ne x, bm_set_ne x]
              have tt := hD'.2.2.2.2.2 m (by omega)
              exact ⟨tt.1, tt.2.1, fun j hj => (tt.2.2 j hj).fr fF (by decide) (by decide) (by decide) (by decide)⟩
        · rw [hgo] at hq
          exact hq true _ (f'.tr (fF.up (by decide))) (hZ'.fr fF (by decide)) (Or.inr ⟨rfl, hC'.fr fF (by decide), n1, n2⟩)
      intro n
      induction n with
      | zero =>
        intro i qq D' w' hi hd' hmm hD' g11 ht' hc' hC' hZ' f' hit hgo
        have e8 : i = 8 := by omega
        subst e8
        refine wfX4_readMessage_85 (br_t (by decide) ⟨bm_in (by omega) (by decide), ?_⟩)
        rw [nI_clamp (by omega)]
        refine done 8 qq D' w' (by decide) hd' hmm hD' g11 hC' hZ' f' hit ?_
        rw [bl_items] at hgo
        by_cases ce : t.length ≤ qq ∨ bm_b t qq = 59
        · rw [if_pos ce] at hgo; exact Or.inl hgo
        · rw [if_neg ce] at hgo; exact Or.inr ⟨hgo, fun x => ce (Or.inl x), fun x => ce (Or.inr x)⟩
      | succ n ih =>
        intro i qq D' w' hi hd' hmm hD' g11 ht' hc' hC' hZ' f' hit hgo
        have hT' := hT.fr f' (by decide) (by decide)
        have item : ∀ (w'' : bw_W), bw_fr [3] w' w'' → bx_C t qq w'' → R = (match bl_item t qq with | .inl e => .inl e | .inr (x, q') => bl_items t mm n (i + 1) q' (bd_setI D' (8 * mm + i) x)) → ∃ Q2 : Bool → bw_W → Prop, bw_rb E (d + 2) mX4_readItem [.ref 4, .int ((nI mm * 8) + nI i)] w'' Q2 ∧ ∀ v3 w4, Q2 v3 w4 → ((v3 = true → bw_G E (d + 3) mX4_readMessage 85 [some (.ref 4), some (.int (nI q)), some (.int (nI mm)), some (.int (nI i + 1))] [] w4 (bw_qb Q)) ∧ (v3 = false → Q false w4)) := by
          intro w'' f'' hC'' hgo'
          rw [nl_8, pk_mul, nI_add, Nat.mul_comm mm 8]
          have fa : bw_fr bx_dl w w'' := f'.tr (f''.up (by decide))
          refine ⟨fun b w9 => bx_i1 (8 * mm + i) w'' w9 ∧ bx_Z w9 ∧ bx_ri t (8 * mm + i) w9 (bl_item t qq) b, xs_ritem (d := d) (by omega) ht (hT.fr fa (by decide) (by decide)) (hZ'.fr f'' (by decide)) hC'' (fun b w9 a1 a2 a3 => ⟨a1, a2, a3⟩), ?_⟩
          rintro b w9 ⟨i9, z9, r9⟩
          have f9 : bw_fr bx_dl w w9 := fa.tr (i9.1.up (by decide))
          cases e9 : bl_item t qq with
          | inl e0 =>
            rw [e9] at r9 hgo'
            obtain ⟨rfl, g33⟩ := r9
            refine ⟨fun x => absurd x br_ft, fun _ => ?_⟩
            rw [hgo'] at hq
            exact hq false w9 f9 z9 (Or.inl ⟨rfl, g33⟩)
          | inr s =>
            obtain ⟨x, q'⟩ := s
            rw [e9] at r9 hgo'
            obtain ⟨rfl, c9, it9⟩ := r9
            refine ⟨fun _ => ?_, fun x => absurd x br_tf⟩
            rw [nI_1]
            have hDs : bx_D (bd_setI D' (8 * mm + i) x) w9 := bx_D_setI hd' (hD'.f3 f'') (by omega) i9
            refine ih (i + 1) q' (bd_setI D' (8 * mm + i) x) w9 (by omega) (bd_wf_setI hd' (by omega)) hmm hDs ?_ ht' hc' c9 z9 f9 (fun j hj => ?_) hgo'
            · rw [i9.1.l (by decide), f''.l (by decide)]; exact g11
            · show bx_itd (bm_set (bm_it (dd_X D')) (8 * mm + i) x (8 * mm + j)) (8 * mm + j) w9
              by_cases ej : j = i
              · rw [ej, bm_set_eq]; exact it9
              · rw [bm_set_ne (by omega)]
                obtain ⟨a1, a2, a3, a4⟩ := i9.2 (8 * mm + j) (by omega)
                have o9 := (hit j (by omega)).fr f'' (by decide) (by decide) (by decide) (by decide)
                unfold bx_itd at o9 ⊢
                rw [a1, a2, a3, a4]; exact o9
        rw [bl_items] at hgo
        refine wfX4_readMessage_85 (br_f (nI_ge (a := i) (b := 8) (by omega) (by decide)) ?_)
        rw [nI_z (by omega)]
        by_cases ci : i = 0
        · rw [if_neg (fun x => x.1 ci)] at hgo
          exact br_t ci (item w' (bw_fr.rf _ _) hC' hgo)
        · refine br_f ci ⟨fun v w7 => v = decide (t.length ≤ qq ∨ bm_b t qq = 59) ∧ w7 = sw_i w' 3 1 (nI qq), xs_clEnd (d := d) ht hT' hC' ⟨rfl, rfl⟩, ?_⟩
          rintro _ _ ⟨rfl, rfl⟩
          have f7 : bw_fr [3] w' (sw_i w' 3 1 (nI qq)) := (bw_fr.rf _ _).si (by decide)
          have hpl := hC'.pl
          have c7 : bx_C t qq (sw_i w' 3 1 (nI qq)) := bx_C_at hpl.1 hpl.2 (by rw [gs_ii, if_pos ⟨rfl, rfl⟩])
          by_cases ce : t.length ≤ qq ∨ bm_b t qq = 59
          · rw [if_pos ⟨ci, ce⟩] at hgo
            rw [decide_eq_true ce]
            refine ⟨fun _ => ⟨bm_in (by omega) (by decide), ?_⟩, fun x => absurd x br_tf⟩
            rw [nI_clamp (by omega)]
            exact done i qq D' _ (by omega) hd' hmm (hD'.f3 f7) (by rw [f7.l (by decide)]; exact g11) c7 (hZ'.fr f7 (by decide)) (f'.tr (f7.up (by decide))) (fun j hj => (hit j hj).fr f7 (by decide) (by decide) (by decide) (by decide)) (Or.inl hgo)
          · rw [if_neg (fun x => ce x.2)] at hgo
            rw [decide_eq_false ce]
            exact ⟨fun x => absurd x br_ft, fun _ => item _ f7 c7 hgo⟩
    exact key 8 0 q2 D w4 rfl hd hm hD4 (by rw [t4, if_pos rfl]) rfl rfl (c3.fr f4 (by decide)) ((hZ.fr f3 (by decide)).fr f4 (by decide)) f34 (fun j hj => absurd hj (Nat.not_lt_zero j)) hR.symm
end XLEX2
