def br_can (X : bm_X) (N : bm_N) (t : List Nat) (a0 : Int32) : Int32 := match bm_ix a0 (bm_nn X) with
  | none => -1
  | some n => nI (bm_sb (fun g => decide (bm_f8 X N n g = bp_alone t)) 8)
section CANBE
variable {E : bw_E} {d : Nat} {w : bw_W} {X : bm_X} {N : bm_N} {t : List Nat} {Q : Int32 → bw_W → Prop}
theorem bm_form_ne (hx : bm_wfX X) {n k u : Nat} (hn : n < bm_nn X) : bm_form X N n k u ≠ [] := by
  unfold bm_form bm_def
  by_cases c1 : bm_frm N (8 * n + 2 * k + u) ≠ []
  · rw [if_pos c1]; exact c1
  · rw [if_neg c1]
    by_cases c2 : bm_frm N (8 * n + u) ≠ []
    · rw [if_pos c2]; exact c2
    · rw [if_neg c2]
      by_cases c3 : bm_frm N (8 * n + 2 * k) ≠ []
      · rw [if_pos c3]; exact c3
      · rw [if_neg c3]
        by_cases c4 : bm_frm N (8 * n) ≠ []
        · rw [if_pos c4]; exact c4
        · rw [if_neg c4]; exact (hx.2.2.1 n hn).2.1
theorem qx_can {a0 : Int32} (ht : bm_wfT t) (hT : bx_T t w) (hX : bx_X X w) (hN : bx_N N w) (hW : bm_wfN X N) (hx : bm_wfX X) (hq : ∀ w', bw_fr [3] w w' → Q (br_can X N t a0) w') : bw_ri E (d + 4) mX11_canBe [.ref 0, .int a0] w Q := by
  have h6 := hx.1
  refine wfX11_canBe ?_
  rw [hX.1, bm_x_iff (by omega)]
  unfold br_can at hq
  cases e0 : bm_ix a0 (bm_nn X) with
  | none => rw [e0] at hq; exact br_f (fun q => q rfl) (hq w (bw_fr.rf _ _))
  | some n =>
    rw [e0] at hq
    obtain ⟨g0, rfl⟩ := bm_ix_some e0
    refine br_t (by simp) ⟨fun v w3 => v = bx_w (bp_alone t) ∧ bw_fr [3] w w3, xs_alone (d := d + 1) ht hT (fun w' f => ⟨rfl, f⟩), ?_⟩
    rintro _ w3 ⟨rfl, f3⟩
    have hX3 := hX.fr f3 (by decide)
    have hN3 := hN.fr f3 (by decide)
    rw [bx_w0 (bp_alone_ok t)]
    refine ⟨fun z => ⟨Q, xs_slots (d := d) hX3 hN3 hW hx g0 (bp_alone_ok t) (hq w3 f3), fun _ _ h => h⟩, fun z => ?_⟩
    have e : bm_sb (fun g => decide (bm_f8 X N n g = bp_alone t)) 8 = 0 := by
      rw [bm_sb0]
      intro g hg
      rw [z]
      exact decide_eq_false (bm_form_ne hx g0)
    have hr := hq w3 f3
    have hr' : Q (nI (bm_sb (fun g => decide (bm_f8 X N n g = bp_alone t)) 8)) w3 := hr
    rw [e] at hr'
    exact hr'
theorem qm_can {a0 : Int32} (ht : bm_wfT t) (hT : by_T t w) (hX : by_X X w) (hN : by_N N w) (hW : bm_wfN X N) (hx : bm_wfX X) (hq : ∀ w', by_fr [] (10 :: by_tf) w w' → Q (br_can X N t a0) w') : bw_ri E (d + 5) mX12_canBe [.ref 50, .int a0] w Q := by
  have h6 := hx.1
  refine wfX12_canBe ?_
  rw [hX.1, bm_m_iff (by omega)]
  unfold br_can at hq
  cases e0 : bm_ix a0 (bm_nn X) with
  | none => rw [e0] at hq; exact br_f (fun q => q rfl) (hq w (by_fr.rf _ _ _))
  | some n =>
    rw [e0] at hq
    obtain ⟨g0, rfl⟩ := bm_ix_some e0
    refine br_t (by simp) ⟨fun v w3 => v = by_w (bp_alone t) ∧ by_fr [] (10 :: by_tf) w w3, ys_alone (d := d) ht hT (fun w' f => ⟨rfl, f⟩), ?_⟩
    rintro _ w3 ⟨rfl, f3⟩
    have hX3 := hX.fr f3 (by decide) (by decide) (by decide)
    have hN3 := hN.fr f3 (by decide)
    have hr : Q (nI (bm_sb (fun g => decide (bm_f8 X N n g = bp_alone t)) 8)) w3 := hq w3 f3
    have key : ∀ j i, i + j = 8 → bw_G E (d + 5) mX12_canBe 21 [some (.ref 50), some (.int (nI n)), some (.long (by_w (bp_alone t))), none, some (.int (nI (bm_sb (fun g => decide (bm_f8 X N n g = bp_alone t)) i))), some (.int (nI i))] [] w3 (bw_qi Q) := by
      intro j
      induction j with
      | zero =>
        intro i h
        have e : i = 8 := by omega
        subst e
        exact wfX12_canBe_21 (br_t (by decide) hr)
      | succ j ih =>
        intro i h
        have IH := ih (i + 1) (by omega)
        have hlt := bm_sb_lt (fun g => decide (bm_f8 X N n g = bp_alone t)) i
        refine wfX12_canBe_21 (br_f (nI_ge (a := i) (b := 8) (by omega) (by decide)) ⟨fun v w4 => by_w (bm_f8 X N n i) = v ∧ w3 = w4, ys_f8 (d := d) hX3 hN3 hW hx g0 (by omega) ⟨rfl, rfl⟩, ?_⟩)
        rintro _ _ ⟨rfl, rfl⟩
        rw [nI_1, bm_b8 i (by omega), bm_or8 hlt, Int32.or_zero, by_w_eq (bm_f8_ok hW hx g0 (by omega)) (bp_alone_ok t)]
        rw [bm_sb] at IH
        refine ⟨fun z => ?_, fun z => ?_⟩
        · rw [decide_eq_false z] at IH; exact IH
        · rw [decide_eq_true z] at IH; exact IH
    exact key 8 0 rfl
end CANBE
