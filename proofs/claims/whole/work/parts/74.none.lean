/-! the reference before a lexicon is taken -/
def by_0 (S : bm_S) (w : bw_W) : Prop := by_T (st_t S) w ∧ by_X (st_X S) w ∧ gw_l w 63 55 = 0 ∧ gw_i w 50 42 = 0 ∧ gw_i w 50 51 = 0 ∧ by_K (st_C S) w ∧ by_R (st_R S) w ∧ bm_nn (st_X S) = 0 ∧ st_G S = [] ∧ st_U S = [] ∧ st_I S = none
theorem by_0.fr {T : bm_S} {w w' : bw_W} {S F : List Nat} (h : by_0 T w) (hf : by_fr S F w w') (hs : ∀ c, c ∈ S → by_sc c) (hk : ∀ c, c ∈ F → by_sf c) : by_0 T w' := by
  have hn : ∀ c, ¬ by_sc c → c ∉ S := fun c h q => h (hs c q)
  have hm : ∀ c, ¬ by_sf c → c ∉ F := fun c h q => h (hk c q)
  unfold by_sc at hn hs
  unfold by_sf at hm
  obtain ⟨h1, h2, h3, h4, h5, h6, h7, h8⟩ := h
  exact ⟨h1.fr hf (hn _ (by omega)) (hm _ (by omega)), h2.fr hf (fun c q => by have := hs c q; omega) (hm _ (by omega)) (hm _ (by omega)), by rw [hf.l (hn _ (by omega)) (by decide)]; exact h3, by rw [hf.i5 (hm _ (by omega))]; exact h4, by rw [hf.i5 (hm _ (by omega))]; exact h5, h6.fr hf (hm _ (by omega)) (hn _ (by omega)) (hn _ (by omega)) (hn _ (by omega)), h7.fr hf (hn _ (by omega)), h8⟩
theorem by_0.frx {T : bm_S} {w w' : bw_W} {L : List Nat} (h : by_0 T w) (hf : bw_fr L w w') (hl : ∀ c, c ∈ L → c < 50 ∨ 76 < c) : by_0 T w' := by
  have h50 : 50 ∉ L := fun q => by have := hl _ q; omega
  refine h.fr (S := L) (F := []) ⟨fun c hc _ => hf c hc, fun k _ => ?_⟩ (fun c q => by have := hl c q; unfold by_sc; omega) (fun c q => by cases q)
  rw [(hf 50 h50).1, (hf 50 h50).2]; exact ⟨rfl, rfl⟩
theorem bm_ix0 (a : Int32) : bm_ix a 0 = none := by
  unfold bm_ix
  rw [if_neg]
  intro h
  have := h.1
  have := h.2
  omega
section NONE
variable {E : bw_E} {d : Nat} {w : bw_W} {S : bm_S} {K : Nat} {Q : Int32 → bw_W → Prop}
theorem b0_nm (hw : bm_wfS K S) (h : by_0 S w) : bm_nm (st_X S) = 0 := hw.2.1.2.2.2.2.2 h.2.2.2.2.2.2.2.1
theorem b0_34 (h : by_0 S w) : gw_i w 50 34 = 0 := by rw [h.2.1.1, h.2.2.2.2.2.2.2.1]; rfl
theorem b0_z1 (h : by_0 S w) (a : Int32) : ¬ ((¬ (a < 0)) ∧ (¬ (((gw_i w 50 34) - 1) < a))) := by
  rw [b0_34 h]
  intro q
  exact (bm_m_iff (a := a) (n := 0) (by decide)).mp q (bm_ix0 a)
theorem b0_z2 (h : by_0 S w) {P : Prop} : ¬ ((¬ ((gw_i w 50 34) ≤ 0)) ∧ P) := by
  rw [b0_34 h]
  exact fun q => q.1 (by decide)
theorem b0_z3 (h : by_0 S w) : ¬ ¬ ((gw_i w 50 34) ≤ 0) := by
  rw [b0_34 h]
  exact fun q => q (by decide)
theorem b0_form {a0 a1 a2 a3 : Int32} (h : by_0 S w) (hq : Q (br_form (st_X S) (st_N S) a0 a1 a2 a3) w) : bw_ri E (d + 4) mX12_form [.ref 50, .int a0, .int a1, .int a2, .int a3] w Q := by
  unfold br_form at hq
  rw [h.2.2.2.2.2.2.2.1, bm_ix0] at hq
  exact wfX12_form (br_nt (b0_z1 h a0) hq)
theorem b0_def {a0 a1 a2 : Int32} (h : by_0 S w) (hq : Q (br_def (st_X S) (st_N S) a0 a1 a2) w) : bw_ri E (d + 3) mX12_byDefault [.ref 50, .int a0, .int a1, .int a2] w Q := by
  unfold br_def at hq
  rw [h.2.2.2.2.2.2.2.1, bm_ix0] at hq
  exact wfX12_byDefault (br_nt (b0_z1 h a0) hq)
theorem b0_hole {a0 a1 : Int32} (h : by_0 S w) (hq : Q (br_hole (st_X S) (st_N S) a0 a1) w) : bw_ri E (d + 2) mX12_hole [.ref 50, .int a0, .int a1] w Q := by
  unfold br_hole at hq
  rw [if_pos h.2.2.2.2.2.2.2.1] at hq
  exact wfX12_hole (br_nt (b0_z2 h) hq)
theorem b0_bare {a0 : Int32} (h : by_0 S w) (hq : Q (br_bare (st_X S) (st_N S) a0) w) : bw_ri E (d + 2) mX12_bare [.ref 50, .int a0] w Q := by
  unfold br_bare at hq
  rw [h.2.2.2.2.2.2.2.1, bm_ix0] at hq
  exact wfX12_bare (br_f (b0_z1 h a0) hq)
theorem b0_msg {a0 a1 : Int32} (hw : bm_wfS K S) (h : by_0 S w) (hq : Q (br_msg (st_X S) (st_N S) a0 a1) w) : bw_ri E (d + 6) mX12_message [.ref 50, .int a0, .int a1] w Q := by
  unfold br_msg at hq
  rw [b0_nm hw h, bm_ix0] at hq
  exact wfX12_message (br_nt (b0_z2 h) hq)
theorem b0_told {a0 a1 : Int32} (hw : bm_wfS K S) (h : by_0 S w) (hq : Q (br_told (st_X S) (st_N S) a0 a1) w) : bw_ri E (d + 6) mX12_told_ [.ref 50, .int a0, .int a1] w Q := by
  unfold br_told at hq
  rw [b0_nm hw h, bm_ix0] at hq
  exact wfX12_told_ (br_nt (b0_z2 h) hq)
theorem b0_why {a0 a1 : Int32} (hw : bm_wfS K S) (h : by_0 S w) (hq : Q (br_why (st_X S) (st_N S) a0 a1) w) : bw_ri E (d + 6) mX12_why [.ref 50, .int a0, .int a1] w Q := by
  unfold br_why at hq
  rw [b0_nm hw h, bm_ix0] at hq
  exact wfX12_why (br_nt (b0_z2 h) hq)
theorem b0_miss {a0 a1 a2 : Int32} (hw : bm_wfS K S) (h : by_0 S w) (hq : Q (br_miss (st_X S) (st_N S) a0 a1 a2) w) : bw_ri E (d + 5) mX12_missing [.ref 50, .int a0, .int a1, .int a2] w Q := by
  unfold br_miss at hq
  rw [b0_nm hw h, bm_ix0] at hq
  exact wfX12_missing (br_f (b0_z2 h) hq)
theorem b0_needs {a0 : Int32} (hw : bm_wfS K S) (h : by_0 S w) (hq : Q (br_needs (st_X S) (st_N S) a0) w) : bw_ri E (d + 2) mX12_needs [.ref 50, .int a0] w Q := by
  unfold br_needs at hq
  rw [b0_nm hw h, bm_ix0] at hq
  exact wfX12_needs (br_f (b0_z2 h) hq)
theorem b0_fits {a0 a1 : Int32} (hw : bm_wfS K S) (h : by_0 S w) (hq : Q (br_fits (st_X S) (st_N S) a0 a1) w) : bw_ri E (d + 4) mX12_fits [.ref 50, .int a0, .int a1] w Q := by
  unfold br_fits at hq
  rw [b0_nm hw h, bm_ix0] at hq
  exact wfX12_fits (br_nt (b0_z2 h) hq)
theorem b0_alike {a0 : Int32} (h : by_0 S w) (hq : Q (br_alike (st_X S) (st_N S) a0) w) : bw_ri E (d + 5) mX12_alike [.ref 50, .int a0] w Q := by
  unfold br_alike at hq
  rw [h.2.2.2.2.2.2.2.1, bm_ix0] at hq
  exact wfX12_alike (br_f (b0_z1 h a0) hq)
theorem b0_rule {a0 : Int32} (h : by_0 S w) (hq : Q (br_rule (st_X S) (st_N S) a0) w) : bw_ri E (d + 7) mX12_rule [.ref 50, .int a0] w Q := by
  unfold br_rule at hq
  rw [if_pos h.2.2.2.2.2.2.2.1] at hq
  exact wfX12_rule (br_nt (b0_z3 h) hq)
theorem b0_most {a0 : Int32} (h : by_0 S w) (hq : Q (br_most (st_X S) (st_N S) a0) w) : bw_ri E (d + 7) mX12_most [.ref 50, .int a0] w Q := by
  unfold br_most at hq
  rw [if_pos h.2.2.2.2.2.2.2.1] at hq
  exact wfX12_most (br_nt (b0_z3 h) hq)
theorem b0_can {a0 : Int32} (h : by_0 S w) (hq : Q (br_can (st_X S) (st_N S) (st_t S) a0) w) : bw_ri E (d + 5) mX12_canBe [.ref 50, .int a0] w Q := by
  unfold br_can at hq
  rw [h.2.2.2.2.2.2.2.1, bm_ix0] at hq
  exact wfX12_canBe (br_f (b0_z1 h a0) hq)
theorem b0_guess {a0 a1 : Int32} (hw : bm_wfS K S) (h : by_0 S w) (hq : Q (br_guess (st_X S) (st_N S) (st_t S) a0 a1) w) : bw_ri E (d + 11) mX12_guess [.ref 50, .int a0, .int a1] w Q := by
  unfold br_guess at hq
  rw [b0_nm hw h, bm_ix0] at hq
  exact wfX12_guess (br_nt (b0_z2 h) hq)
theorem b0_undo (h : by_0 S w) (hq : Q (br_undo S) w) : bw_ri E (d + 0) mX12_undo [.ref 50] w Q := by
  unfold br_undo at hq
  rw [h.2.2.2.2.2.2.2.2.2.1] at hq
  exact wfX12_undo (br_nf h.2.2.2.1 hq)
theorem b0_image (h : by_0 S w) (hq : Q (br_image S) w) : bw_ri E (d + 8) mX12_image [.ref 50] w Q := by
  unfold br_image at hq
  rw [if_pos h.2.2.2.2.2.2.2.1] at hq
  exact wfX12_image (br_f (b0_z3 h) hq)
theorem b0_back (h : by_0 S w) (hq : Q (br_back S) w) : bw_ri E (d + 8) mX12_back [.ref 50] w Q := by
  unfold br_back at hq
  rw [h.2.2.2.2.2.2.2.2.2.2] at hq
  exact wfX12_back (br_nf h.2.2.2.2.1 hq)
theorem b0_perf {a0 : Int32} (hw : bm_wfS K S) (h : by_0 S w) (hq : Q (br_perf S a0) w) : bw_ri E (d + 11) mX12_perform [.ref 50, .int a0] w Q := by
  have h4 := hw.2.2.2.2.2.2.1
  unfold br_perf at hq
  refine wfX12_perform ?_
  rw [h.2.2.2.2.2.1.1, bm_m_iff (by omega)]
  cases e : bm_ix a0 (st_C S).length with
  | none => rw [e] at hq; exact br_nt (fun q => q rfl) hq
  | some n =>
    rw [e] at hq
    dsimp only at hq
    rw [if_pos h.2.2.2.2.2.2.2.1] at hq
    exact br_nf (fun q => by cases q) (br_nt (b0_z3 h) hq)
theorem b0_run {a0 a1 : Int32} (hw : bm_wfS K S) (h : by_0 S w) (hq : Q (br_run S a0 a1) w) : bw_ri E (d + 11) mX12_run [.ref 50, .int a0, .int a1] w Q := by
  have h4 := hw.2.2.2.2.2.2.1
  unfold br_run at hq
  refine wfX12_run ?_
  rw [h.2.2.2.2.2.1.1, bm_m_iff (by omega)]
  cases e : bm_ix a0 (st_C S).length with
  | none => rw [e] at hq; exact br_nt (fun q => q rfl) hq
  | some n =>
    rw [e] at hq
    dsimp only at hq
    rw [if_pos h.2.2.2.2.2.2.2.1] at hq
    exact br_nf (fun q => by cases q) (br_nt (b0_z3 h) hq)
theorem b0_ways {a0 : Int32} {x : Int64} (h : by_0 S w) (hq : Q (br_ways S a0 x) w) : bw_ri E (d + 13) mX12_ways [.ref 50, .int a0, .long x] w Q := by
  unfold br_ways at hq
  rw [if_pos h.2.2.2.2.2.2.2.1] at hq
  exact wfX12_ways (br_nt (b0_z3 h) hq)
end NONE
