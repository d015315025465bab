/-! the pairs of calls before a lexicon is taken -/
def bv_0 (K : Nat) (w : bw_W) : Prop := ∃ S, bm_wfS K S ∧ bx_S S w ∧ by_0 S w ∧ bx_Z w
def bv_J (K : Nat) (w : bw_W) : Prop := bv_0 K w ∨ bv_I K w
def bv_all (E : bw_E) (d : Nat) (MX MM : bw_M) (A : List Value) : Prop := ∀ K w, K < 2 ^ 29 → bv_J K w → ∃ (r : Int32) (Q1 : bw_W → Prop), bw_run E d MX (.ref 0 :: A) w (fun o w1 => o = some (.int r) ∧ Q1 w1) ∧ ∀ w1, Q1 w1 → bw_run E d MM (.ref 50 :: A) w1 (fun o w2 => o = some (.int r) ∧ bv_J (K + 40) w2)
theorem bv_mk0 {E : bw_E} {d K : Nat} {S S' : bm_S} {w : bw_W} {MX MM : bw_M} {A : List Value} {r : Int32} (hw' : bm_wfS (K + 40) S') (hy : by_0 S w)
    (X : ∀ Q : Int32 → bw_W → Prop, (∀ w' L, bw_fr L w w' → (∀ c, c ∈ L → c < 50 ∨ 76 < c) → bx_Z w' → bx_S S' w' → Q r w') → bw_ri E d MX (.ref 0 :: A) w Q)
    (Y : ∀ (w1 : bw_W) (Q : Int32 → bw_W → Prop), by_0 S w1 → (∀ w' F G, by_fr F G w1 w' → (∀ c, c ∈ F → 50 ≤ c ∧ c ≤ 76) → (by_0 S' w' ∨ by_S S' w') → Q r w') → bw_ri E d MM (.ref 50 :: A) w1 Q) :
    ∃ (r : Int32) (Q1 : bw_W → Prop), bw_run E d MX (.ref 0 :: A) w (fun o w1 => o = some (.int r) ∧ Q1 w1) ∧ ∀ w1, Q1 w1 → bw_run E d MM (.ref 50 :: A) w1 (fun o w2 => o = some (.int r) ∧ bv_J (K + 40) w2) := by
  refine ⟨r, fun w1 => bx_Z w1 ∧ bx_S S' w1 ∧ by_0 S w1, bw_run_mono (Q := bw_qi (fun v w1 => v = r ∧ bx_Z w1 ∧ bx_S S' w1 ∧ by_0 S w1)) (fun o w1 h => ?_) (X _ (fun w' L f hl z h => ⟨rfl, z, h, hy.frx f hl⟩)), fun w1 h => ?_⟩
  · obtain ⟨v, h1, rfl, h2⟩ := h
    exact ⟨h1, h2⟩
  · obtain ⟨z, hx, hy1⟩ := h
    refine bw_run_mono (Q := bw_qi (fun v w2 => v = r ∧ bv_J (K + 40) w2)) (fun o w1 h => ?_) (Y w1 _ hy1 (fun w' F G f hF h' => ⟨rfl, ?_⟩))
    · obtain ⟨v, h1, rfl, h2⟩ := h
      exact ⟨h1, h2⟩
    · have z' : bx_Z w' := fun i hi => by rw [f.i (fun q => by have := hF 13 q; omega) (by decide)]; exact z i hi
      rcases h' with h' | h'
      · exact Or.inl ⟨S', hw', hx.fry hw' f hF, h', z'⟩
      · exact Or.inr ⟨S', hw', hx.fry hw' f hF, h', z'⟩
theorem bv_or {E : bw_E} {d : Nat} {MX MM : bw_M} {A : List Value} (h0 : ∀ K w, K < 2 ^ 29 → bv_0 K w → ∃ (r : Int32) (Q1 : bw_W → Prop), bw_run E d MX (.ref 0 :: A) w (fun o w1 => o = some (.int r) ∧ Q1 w1) ∧ ∀ w1, Q1 w1 → bw_run E d MM (.ref 50 :: A) w1 (fun o w2 => o = some (.int r) ∧ bv_J (K + 40) w2)) (h1 : bv_two E d MX MM A) : bv_all E d MX MM A := by
  intro K w hK h
  rcases h with h | h
  · exact h0 K w hK h
  · obtain ⟨r, Q1, a, b⟩ := h1 K w hK h
    exact ⟨r, Q1, a, fun w1 q => bw_run_mono (fun o w2 h => ⟨h.1, Or.inr h.2⟩) (b w1 q)⟩
section PAIRS0
variable {E : bw_E} {d : Nat}
theorem bz_form {a0 a1 a2 a3 : Int32} : bv_all E (d + 14) mX11_form mX12_form [.int a0, .int a1, .int a2, .int a3] := by
  refine bv_or (fun K w hK h9 => ?_) bv_form
  obtain ⟨S, hw, h, hy, hZ⟩ := h9
  exact bv_mk0 (S := S) (S' := S) (r := (br_form (st_X S) (st_N S) a0 a1 a2 a3)) (hw.up (by omega)) hy
    (fun Q hq => qx_form (d := d + 11) h.2.1 h.2.2.2.1 hw.2.2.1.1 hw.2.1 (hq w [] (bw_fr.rf _ _) (fun c q => by cases q) hZ h))
    (fun w1 Q h1 hq => b0_form (d := d + 10) h1 (hq w1 [] [] (by_fr.rf _ _ _) (fun c q => by cases q) (Or.inl h1)))
theorem bz_def {a0 a1 a2 : Int32} : bv_all E (d + 14) mX11_byDefault mX12_byDefault [.int a0, .int a1, .int a2] := by
  refine bv_or (fun K w hK h9 => ?_) bv_def
  obtain ⟨S, hw, h, hy, hZ⟩ := h9
  exact bv_mk0 (S := S) (S' := S) (r := (br_def (st_X S) (st_N S) a0 a1 a2)) (hw.up (by omega)) hy
    (fun Q hq => qx_def (d := d + 13) h.2.1 h.2.2.2.1 hw.2.2.1.1 hw.2.1 (hq w [] (bw_fr.rf _ _) (fun c q => by cases q) hZ h))
    (fun w1 Q h1 hq => b0_def (d := d + 11) h1 (hq w1 [] [] (by_fr.rf _ _ _) (fun c q => by cases q) (Or.inl h1)))
theorem bz_hole {a0 a1 : Int32} : bv_all E (d + 14) mX11_hole mX12_hole [.int a0, .int a1] := by
  refine bv_or (fun K w hK h9 => ?_) bv_hole
  obtain ⟨S, hw, h, hy, hZ⟩ := h9
  exact bv_mk0 (S := S) (S' := S) (r := (br_hole (st_X S) (st_N S) a0 a1)) (hw.up (by omega)) hy
    (fun Q hq => qx_hole (d := d + 13) h.2.1 h.2.2.1 h.2.2.2.1 hw.2.2.1.1 hw.2.1 (hq w [] (bw_fr.rf _ _) (fun c q => by cases q) hZ h))
    (fun w1 Q h1 hq => b0_hole (d := d + 12) h1 (hq w1 [] [] (by_fr.rf _ _ _) (fun c q => by cases q) (Or.inl h1)))
theorem bz_bare {a0 : Int32} : bv_all E (d + 14) mX11_bare mX12_bare [.int a0] := by
  refine bv_or (fun K w hK h9 => ?_) bv_bare
  obtain ⟨S, hw, h, hy, hZ⟩ := h9
  exact bv_mk0 (S := S) (S' := S) (r := (br_bare (st_X S) (st_N S) a0)) (hw.up (by omega)) hy
    (fun Q hq => qx_bare (d := d + 13) h.2.1 h.2.2.2.1 hw.2.2.1.1 hw.2.1 (hq w [] (bw_fr.rf _ _) (fun c q => by cases q) hZ h))
    (fun w1 Q h1 hq => b0_bare (d := d + 12) h1 (hq w1 [] [] (by_fr.rf _ _ _) (fun c q => by cases q) (Or.inl h1)))
theorem bz_msg {a0 a1 : Int32} : bv_all E (d + 14) mX11_message mX12_message [.int a0, .int a1] := by
  refine bv_or (fun K w hK h9 => ?_) bv_msg
  obtain ⟨S, hw, h, hy, hZ⟩ := h9
  exact bv_mk0 (S := S) (S' := S) (r := (br_msg (st_X S) (st_N S) a0 a1)) (hw.up (by omega)) hy
    (fun Q hq => qx_msg (d := d + 9) h.2.1 h.2.2.2.1 hw.2.2.1.1 hw.2.1 (fun w' f => hq w' [35, 36] f (by decide) (hZ.fr' f (by decide)) (h.fr hw f (by unfold bx_sc; decide))))
    (fun w1 Q h1 hq => b0_msg (d := d + 8) hw h1 (hq w1 [] [] (by_fr.rf _ _ _) (fun c q => by cases q) (Or.inl h1)))
theorem bz_told {a0 a1 : Int32} : bv_all E (d + 14) mX11_told mX12_told_ [.int a0, .int a1] := by
  refine bv_or (fun K w hK h9 => ?_) bv_told
  obtain ⟨S, hw, h, hy, hZ⟩ := h9
  exact bv_mk0 (S := S) (S' := S) (r := (br_told (st_X S) (st_N S) a0 a1)) (hw.up (by omega)) hy
    (fun Q hq => qx_told (d := d + 9) h.2.1 h.2.2.2.1 hw.2.2.1.1 hw.2.1 (fun w' f => hq w' [35, 36] f (by decide) (hZ.fr' f (by decide)) (h.fr hw f (by unfold bx_sc; decide))))
    (fun w1 Q h1 hq => b0_told (d := d + 8) hw h1 (hq w1 [] [] (by_fr.rf _ _ _) (fun c q => by cases q) (Or.inl h1)))
theorem bz_why {a0 a1 : Int32} : bv_all E (d + 14) mX11_why mX12_why [.int a0, .int a1] := by
  refine bv_or (fun K w hK h9 => ?_) bv_why
  obtain ⟨S, hw, h, hy, hZ⟩ := h9
  exact bv_mk0 (S := S) (S' := S) (r := (br_why (st_X S) (st_N S) a0 a1)) (hw.up (by omega)) hy
    (fun Q hq => qx_why (d := d + 10) h.2.1 h.2.2.2.1 hw.2.2.1.1 hw.2.1 (fun w' f => hq w' [35, 36] f (by decide) (hZ.fr' f (by decide)) (h.fr hw f (by unfold bx_sc; decide))))
    (fun w1 Q h1 hq => b0_why (d := d + 8) hw h1 (hq w1 [] [] (by_fr.rf _ _ _) (fun c q => by cases q) (Or.inl h1)))
theorem bz_miss {a0 a1 a2 : Int32} : bv_all E (d + 14) mX11_missing mX12_missing [.int a0, .int a1, .int a2] := by
  refine bv_or (fun K w hK h9 => ?_) bv_miss
  obtain ⟨S, hw, h, hy, hZ⟩ := h9
  exact bv_mk0 (S := S) (S' := S) (r := (br_miss (st_X S) (st_N S) a0 a1 a2)) (hw.up (by omega)) hy
    (fun Q hq => qx_miss (d := d + 10) h.2.1 h.2.2.2.1 hw.2.2.1.1 hw.2.1 (hq w [] (bw_fr.rf _ _) (fun c q => by cases q) hZ h))
    (fun w1 Q h1 hq => b0_miss (d := d + 9) hw h1 (hq w1 [] [] (by_fr.rf _ _ _) (fun c q => by cases q) (Or.inl h1)))
theorem bz_needs {a0 : Int32} : bv_all E (d + 14) mX11_needs mX12_needs [.int a0] := by
  refine bv_or (fun K w hK h9 => ?_) bv_needs
  obtain ⟨S, hw, h, hy, hZ⟩ := h9
  exact bv_mk0 (S := S) (S' := S) (r := (br_needs (st_X S) (st_N S) a0)) (hw.up (by omega)) hy
    (fun Q hq => qx_needs (d := d + 12) h.2.1 h.2.2.2.1 hw.2.2.1.1 hw.2.1 (hq w [] (bw_fr.rf _ _) (fun c q => by cases q) hZ h))
    (fun w1 Q h1 hq => b0_needs (d := d + 12) hw h1 (hq w1 [] [] (by_fr.rf _ _ _) (fun c q => by cases q) (Or.inl h1)))
theorem bz_fits {a0 a1 : Int32} : bv_all E (d + 14) mX11_fits mX12_fits [.int a0, .int a1] := by
  refine bv_or (fun K w hK h9 => ?_) bv_fits
  obtain ⟨S, hw, h, hy, hZ⟩ := h9
  exact bv_mk0 (S := S) (S' := S) (r := (br_fits (st_X S) (st_N S) a0 a1)) (hw.up (by omega)) hy
    (fun Q hq => qx_fits (d := d + 12) h.2.1 h.2.2.2.1 hw.2.2.1.1 hw.2.1 (hq w [] (bw_fr.rf _ _) (fun c q => by cases q) hZ h))
    (fun w1 Q h1 hq => b0_fits (d := d + 10) hw h1 (hq w1 [] [] (by_fr.rf _ _ _) (fun c q => by cases q) (Or.inl h1)))
theorem bz_alike {a0 : Int32} : bv_all E (d + 14) mX11_alike mX12_alike [.int a0] := by
  refine bv_or (fun K w hK h9 => ?_) bv_alike
  obtain ⟨S, hw, h, hy, hZ⟩ := h9
  exact bv_mk0 (S := S) (S' := S) (r := (br_alike (st_X S) (st_N S) a0)) (hw.up (by omega)) hy
    (fun Q hq => qx_alike (d := d + 10) h.2.1 h.2.2.2.1 hw.2.2.1.1 hw.2.1 (hq w [] (bw_fr.rf _ _) (fun c q => by cases q) hZ h))
    (fun w1 Q h1 hq => b0_alike (d := d + 9) h1 (hq w1 [] [] (by_fr.rf _ _ _) (fun c q => by cases q) (Or.inl h1)))
theorem bz_rule {a0 : Int32} : bv_all E (d + 14) mX11_rule mX12_rule [.int a0] := by
  refine bv_or (fun K w hK h9 => ?_) bv_rule
  obtain ⟨S, hw, h, hy, hZ⟩ := h9
  exact bv_mk0 (S := S) (S' := S) (r := (br_rule (st_X S) (st_N S) a0)) (hw.up (by omega)) hy
    (fun Q hq => qx_rule (d := d + 9) h.2.1 h.2.2.1 h.2.2.2.1 hw.2.2.1.1 hw.2.1 (fun w' f => hq w' [35] f (by decide) (hZ.fr' f (by decide)) (h.fr hw f (by unfold bx_sc; decide))))
    (fun w1 Q h1 hq => b0_rule (d := d + 7) h1 (hq w1 [] [] (by_fr.rf _ _ _) (fun c q => by cases q) (Or.inl h1)))
theorem bz_most {a0 : Int32} : bv_all E (d + 14) mX11_most mX12_most [.int a0] := by
  refine bv_or (fun K w hK h9 => ?_) bv_most
  obtain ⟨S, hw, h, hy, hZ⟩ := h9
  exact bv_mk0 (S := S) (S' := S) (r := (br_most (st_X S) (st_N S) a0)) (hw.up (by omega)) hy
    (fun Q hq => qx_most (d := d + 8) h.2.1 h.2.2.1 h.2.2.2.1 hw.2.2.1.1 hw.2.1 (fun w' f => hq w' [35, 36] f (by decide) (hZ.fr' f (by decide)) (h.fr hw f (by unfold bx_sc; decide))))
    (fun w1 Q h1 hq => b0_most (d := d + 7) h1 (hq w1 [] [] (by_fr.rf _ _ _) (fun c q => by cases q) (Or.inl h1)))
theorem bz_word {p : Bool} {a1 a2 a3 a4 : Int32} : bv_all E (d + 14) mX11_word mX12_word [.int (bw_b p), .int a1, .int a2, .int a3, .int a4] := by
  refine bv_or (fun K w hK h9 => ?_) bv_word
  obtain ⟨S, hw, h, hy, hZ⟩ := h9
  exact bv_mk0 (S := S) (S' := S) (r := br_word (st_X S) p a1 a2 a3 a4) (hw.up (by omega)) hy
    (fun Q hq => qx_word (d := d + 11) h.2.1 h.2.2.1 hw.2.1 (hq w [] (bw_fr.rf _ _) (fun c q => by cases q) hZ h))
    (fun w1 Q h1 hq => b0_word (d := d + 11) hw h1 (hq w1 [] [] (by_fr.rf _ _ _) (fun c q => by cases q) (Or.inl h1)))
theorem bz_can {a0 : Int32} : bv_all E (d + 14) mX11_canBe mX12_canBe [.int a0] := by
  refine bv_or (fun K w hK h9 => ?_) bv_can
  obtain ⟨S, hw, h, hy, hZ⟩ := h9
  exact bv_mk0 (S := S) (S' := S) (r := br_can (st_X S) (st_N S) (st_t S) a0) (hw.up (by omega)) hy
    (fun Q hq => qx_can (d := d + 10) hw.1 h.1 h.2.1 h.2.2.2.1 hw.2.2.1.1 hw.2.1 (fun w' f => hq w' [3] f (by decide) (hZ.fr' f (by decide)) (h.fr hw f (by unfold bx_sc; decide))))
    (fun w1 Q h1 hq => b0_can (d := d + 9) h1 (hq w1 [] [] (by_fr.rf _ _ _) (fun c q => by cases q) (Or.inl h1)))
theorem bz_feed {a0 a1 a2 a3 a4 : Int32} : bv_all E (d + 14) mX11_feed mX12_feed [.int a0, .int a1, .int a2, .int a3, .int a4] := by
  refine bv_or (fun K w hK h9 => ?_) bv_feed
  obtain ⟨S, hw, h, hy, hZ⟩ := h9
  exact bv_mk0 (S := S) (S' := st_tp S (bt_feed (st_t S) a0 a1 a2 a3 a4)) (r := br_feed (st_t S) a0 a1 a2 a3 a4) (bm_wfS_tp (hw.up (by omega)) (bm_wf_feed hw.1 _ _ _ _ _)) hy
    (fun Q hq => qx_feed (d := d + 13) h.1 hw.1 (fun w' f g => hq w' [1, 2] f (by decide) (hZ.fr' f (by decide)) (bx_S_tp hw h f g)))
    (fun w1 Q h1 hq => qm_feed (d := d + 13) h1.1 hw.1 (fun w' f g => hq w' [51] [2] f (by decide) (Or.inl (by_0_tp h1 f g))))
theorem bz_end {a0 : Int32} : bv_all E (d + 14) mX11_end mX12_end [.int a0] := by
  refine bv_or (fun K w hK h9 => ?_) bv_end
  obtain ⟨S, hw, h, hy, hZ⟩ := h9
  exact bv_mk0 (S := S) (S' := st_tp S (bt_end (st_t S) a0)) (r := bw_b (br_end (st_t S) a0)) (bm_wfS_tp (hw.up (by omega)) (bm_wf_end hw.1 _)) hy
    (fun Q hq => bw_rb_ri (qx_end (d := d + 14) h.1 hw.1 (fun w' f g => hq w' [1, 2] f (by decide) (hZ.fr' f (by decide)) (bx_S_tp hw h f g))))
    (fun w1 Q h1 hq => bw_rb_ri (qm_end (d := d + 13) h1.1 hw.1 (fun w' f g => hq w' [51] [2] f (by decide) (Or.inl (by_0_tp h1 f g)))))
theorem bz_count {a0 : Int32} : bv_all E (d + 14) mX11_count mX12_count [.int a0] := by
  refine bv_or (fun K w hK h9 => ?_) bv_count
  obtain ⟨S, hw, h, hy, hZ⟩ := h9
  exact bv_mk0 (S := S) (S' := S) (r := br_count S a0) (hw.up (by omega)) hy
    (fun Q hq => qx_count (d := d + 12) hw (by omega) h (hq w [] (bw_fr.rf _ _) (fun c q => by cases q) hZ h))
    (fun w1 Q h1 hq => b0_count (d := d + 14) h1 (hq w1 [] [] (by_fr.rf _ _ _) (fun c q => by cases q) (Or.inl h1)))
theorem bz_stat {a0 : Int32} : bv_all E (d + 14) mX11_status mX12_status [.int a0] := by
  refine bv_or (fun K w hK h9 => ?_) bv_stat
  obtain ⟨S, hw, h, hy, hZ⟩ := h9
  exact bv_mk0 (S := S) (S' := S) (r := br_stat S a0) (hw.up (by omega)) hy
    (fun Q hq => qx_stat (d := d + 14) h (hq w [] (bw_fr.rf _ _) (fun c q => by cases q) hZ h))
    (fun w1 Q h1 hq => b0_stat (d := d + 13) h1 (hq w1 [] [] (by_fr.rf _ _ _) (fun c q => by cases q) (Or.inl h1)))
theorem bz_log {a0 a1 : Int32} : bv_all E (d + 14) mX11_log mX12_log [.int a0, .int a1] := by
  refine bv_or (fun K w hK h9 => ?_) bv_log
  obtain ⟨S, hw, h, hy, hZ⟩ := h9
  exact bv_mk0 (S := S) (S' := S) (r := br_log S a0 a1) (hw.up (by omega)) hy
    (fun Q hq => qx_log (d := d + 12) hw (by omega) h (hq w [] (bw_fr.rf _ _) (fun c q => by cases q) hZ h))
    (fun w1 Q h1 hq => b0_log (d := d + 13) h1 (hq w1 [] [] (by_fr.rf _ _ _) (fun c q => by cases q) (Or.inl h1)))
theorem bz_step {a0 a1 a2 : Int32} : bv_all E (d + 14) mX11_step mX12_step [.int a0, .int a1, .int a2] := by
  refine bv_or (fun K w hK h9 => ?_) bv_step
  obtain ⟨S, hw, h, hy, hZ⟩ := h9
  exact bv_mk0 (S := S) (S' := S) (r := br_step S a0 a1 a2) (hw.up (by omega)) hy
    (fun Q hq => qx_step (d := d + 12) hw h (hq w [] (bw_fr.rf _ _) (fun c q => by cases q) hZ h))
    (fun w1 Q h1 hq => b0_step (d := d + 12) hw h1 (hq w1 [] [] (by_fr.rf _ _ _) (fun c q => by cases q) (Or.inl h1)))
theorem bz_fill {a0 a1 a2 : Int32} : bv_all E (d + 14) mX11_fill mX12_fill [.int a0, .int a1, .int a2] := by
  refine bv_or (fun K w hK h9 => ?_) bv_fill
  obtain ⟨S, hw, h, hy, hZ⟩ := h9
  exact bv_mk0 (S := S) (S' := st_act S true (br_ref (st_X S) (st_N S) 0 a0 a1 a2 [])) (r := br_hand S (br_ref (st_X S) (st_N S) 0 a0 a1 a2 [])) ((bm_wfS_act (by decide) bm_ok_nil hw).up (by omega)) hy
    (fun Q hq => qx_fill (d := d + 8) hw (by omega) h (fun w' f g => hq w' bx_ol f (by decide) (hZ.fr' f (by decide)) g))
    (fun w1 Q h1 hq => wfX12_fill (d := d + 3) ⟨Q, b0_hand (d := d + 3) h1 (fun w' f g => by have q := hq w' [64] [] f (by decide); rw [b0_ref h1] at q; exact q (Or.inl g)), fun _ _ h => h⟩)
theorem bz_empty {a0 : Int32} : bv_all E (d + 14) mX11_empty mX12_empty [.int a0] := by
  refine bv_or (fun K w hK h9 => ?_) bv_empty
  obtain ⟨S, hw, h, hy, hZ⟩ := h9
  exact bv_mk0 (S := S) (S' := st_act S true (br_ref (st_X S) (st_N S) 1 a0 0 0 [])) (r := br_hand S (br_ref (st_X S) (st_N S) 1 a0 0 0 [])) ((bm_wfS_act (by decide) bm_ok_nil hw).up (by omega)) hy
    (fun Q hq => qx_empty (d := d + 8) hw (by omega) h (fun w' f g => hq w' bx_ol f (by decide) (hZ.fr' f (by decide)) g))
    (fun w1 Q h1 hq => wfX12_empty (d := d + 3) ⟨Q, b0_hand (d := d + 3) h1 (fun w' f g => by have q := hq w' [64] [] f (by decide); rw [b0_ref h1] at q; exact q (Or.inl g)), fun _ _ h => h⟩)
theorem bz_strict {a0 : Int32} : bv_all E (d + 14) mX11_strict mX12_strict [.int a0] := by
  refine bv_or (fun K w hK h9 => ?_) bv_strict
  obtain ⟨S, hw, h, hy, hZ⟩ := h9
  exact bv_mk0 (S := S) (S' := st_act S true (br_ref (st_X S) (st_N S) 2 a0 0 0 [])) (r := br_hand S (br_ref (st_X S) (st_N S) 2 a0 0 0 [])) ((bm_wfS_act (by decide) bm_ok_nil hw).up (by omega)) hy
    (fun Q hq => qx_strict (d := d + 8) hw (by omega) h (fun w' f g => hq w' bx_ol f (by decide) (hZ.fr' f (by decide)) g))
    (fun w1 Q h1 hq => wfX12_strict (d := d + 3) ⟨Q, b0_hand (d := d + 3) h1 (fun w' f g => by have q := hq w' [64] [] f (by decide); rw [b0_ref h1] at q; exact q (Or.inl g)), fun _ _ h => h⟩)
theorem bz_drop {a0 a1 a2 : Int32} : bv_all E (d + 14) mX11_drop mX12_drop [.int a0, .int a1, .int a2] := by
  refine bv_or (fun K w hK h9 => ?_) bv_drop
  obtain ⟨S, hw, h, hy, hZ⟩ := h9
  exact bv_mk0 (S := S) (S' := st_act S true (br_ref (st_X S) (st_N S) 4 a0 a1 a2 [])) (r := br_hand S (br_ref (st_X S) (st_N S) 4 a0 a1 a2 [])) ((bm_wfS_act (by decide) bm_ok_nil hw).up (by omega)) hy
    (fun Q hq => qx_drop (d := d + 8) hw (by omega) h (fun w' f g => hq w' bx_ol f (by decide) (hZ.fr' f (by decide)) g))
    (fun w1 Q h1 hq => wfX12_drop (d := d + 3) ⟨Q, b0_hand (d := d + 3) h1 (fun w' f g => by have q := hq w' [64] [] f (by decide); rw [b0_ref h1] at q; exact q (Or.inl g)), fun _ _ h => h⟩)
theorem bz_tell {a0 a1 a2 : Int32} : bv_all E (d + 14) mX11_tell mX12_tell [.int a0, .int a1, .int a2] := by
  refine bv_or (fun K w hK h9 => ?_) bv_tell
  obtain ⟨S, hw, h, hy, hZ⟩ := h9
  exact bv_mk0 (S := S) (S' := st_tell S (br_ref (st_X S) (st_N S) 3 a0 a1 a2 (bp_alone (st_t S)))) (r := br_hand S (br_ref (st_X S) (st_N S) 3 a0 a1 a2 (bp_alone (st_t S)))) ((bm_wfS_tell (bp_alone_ok _) hw).up (by omega)) hy
    (fun Q hq => qx_tell (d := d + 8) hw (by omega) h (fun w' f g => hq w' bx_tl f (by decide) (hZ.fr' f (by decide)) g))
    (fun w1 Q h1 hq => b0_tell (d := d + 3) hw h1 (fun w' f g => by have q := hq w' [64] _ f (by decide); rw [b0_ref h1] at q; exact q (Or.inl g)))
theorem bz_would {a0 a1 a2 : Int32} : bv_all E (d + 14) mX11_would mX12_would [.int a0, .int a1, .int a2] := by
  refine bv_or (fun K w hK h9 => ?_) bv_would
  obtain ⟨S, hw, h, hy, hZ⟩ := h9
  exact bv_mk0 (S := S) (S' := S) (r := br_would S (br_ref (st_X S) (st_N S) 0 a0 a1 a2 [])) (hw.up (by omega)) hy
    (fun Q hq => qx_would (d := d + 9) hw h (fun w' f g => hq w' bx_wl f (by decide) (hZ.fr' f (by decide)) g))
    (fun w1 Q h1 hq => b0_would (d := d + 7) h1 (by have q := hq w1 [] [] (by_fr.rf _ _ _) (fun c q => by cases q) (Or.inl h1); rw [b0_ref h1] at q; exact q))
theorem bz_undo : bv_all E (d + 14) mX11_undo mX12_undo [] := by
  refine bv_or (fun K w hK h9 => ?_) bv_undo
  obtain ⟨S, hw, h, hy, hZ⟩ := h9
  exact bv_mk0 (S := S) (S' := st_undo S) (r := br_undo S) ((bm_wfS_undo hw).up (by omega)) hy
    (fun Q hq => qx_undo (d := d + 13) hw (by omega) h (fun w' f g => hq w' bx_ul f (by decide) (hZ.fr' f (by decide)) g))
    (fun w1 Q h1 hq => b0_undo (d := d + 14) h1 (hq w1 [] [] (by_fr.rf _ _ _) (fun c q => by cases q) (Or.inl (by rw [(b0_S h1).1]; exact h1))))
theorem bz_image : bv_all E (d + 14) mX11_image mX12_image [] := by
  refine bv_or (fun K w hK h9 => ?_) bv_image
  obtain ⟨S, hw, h, hy, hZ⟩ := h9
  exact bv_mk0 (S := S) (S' := st_image S) (r := br_image S) ((bm_wfS_image hw).up (by omega)) hy
    (fun Q hq => qx_image (d := d + 8) hw h (fun w' f g => hq w' bx_il f (by decide) (hZ.fr' f (by decide)) g))
    (fun w1 Q h1 hq => b0_image (d := d + 6) h1 (hq w1 [] [] (by_fr.rf _ _ _) (fun c q => by cases q) (Or.inl (by rw [(b0_S h1).2.1]; exact h1))))
theorem bz_back : bv_all E (d + 14) mX11_back mX12_back [] := by
  refine bv_or (fun K w hK h9 => ?_) bv_back
  obtain ⟨S, hw, h, hy, hZ⟩ := h9
  exact bv_mk0 (S := S) (S' := st_back S) (r := br_back S) ((bm_wfS_back hw).up (by omega)) hy
    (fun Q hq => qx_back (d := d + 8) hw h (fun w' f g => hq w' bx_bl f (by decide) (hZ.fr' f (by decide)) g))
    (fun w1 Q h1 hq => b0_back (d := d + 6) h1 (hq w1 [] [] (by_fr.rf _ _ _) (fun c q => by cases q) (Or.inl (by rw [(b0_S h1).2.2.1]; exact h1))))
theorem bz_perf {a0 : Int32} : bv_all E (d + 14) mX11_perform mX12_perform [.int a0] := by
  refine bv_or (fun K w hK h9 => ?_) bv_perf
  obtain ⟨S, hw, h, hy, hZ⟩ := h9
  exact bv_mk0 (S := S) (S' := st_perf S a0) (r := br_perf S a0) ((bm_wfS_perf hw).up (by omega)) hy
    (fun Q hq => qx_perf (d := d + 8) hw (by omega) h (fun w' f g => hq w' bx_al f (by decide) (hZ.fr' f (by decide)) g))
    (fun w1 Q h1 hq => b0_perf (d := d + 3) hw h1 (hq w1 [] [] (by_fr.rf _ _ _) (fun c q => by cases q) (Or.inl (by rw [(b0_S h1).2.2.2.1]; exact h1))))
theorem bz_run {a0 a1 : Int32} : bv_all E (d + 14) mX11_run mX12_run [.int a0, .int a1] := by
  refine bv_or (fun K w hK h9 => ?_) bv_run
  obtain ⟨S, hw, h, hy, hZ⟩ := h9
  exact bv_mk0 (S := S) (S' := S) (r := br_run S a0 a1) (hw.up (by omega)) hy
    (fun Q hq => qx_run (d := d + 8) hw h (fun w' f g => hq w' bx_rl f (by decide) (hZ.fr' f (by decide)) g))
    (fun w1 Q h1 hq => b0_run (d := d + 3) hw h1 (hq w1 [] [] (by_fr.rf _ _ _) (fun c q => by cases q) (Or.inl h1)))
theorem bz_guess {a0 a1 : Int32} : bv_all E (d + 14) mX11_guess mX12_guess [.int a0, .int a1] := by
  refine bv_or (fun K w hK h9 => ?_) bv_guess
  obtain ⟨S, hw, h, hy, hZ⟩ := h9
  exact bv_mk0 (S := S) (S' := S) (r := br_guess (st_X S) (st_N S) (st_t S) a0 a1) (hw.up (by omega)) hy
    (fun Q hq => qx_guess (d := d + 8) hw h (fun w' f g => hq w' bx_gl f (by decide) (hZ.fr' f (by decide)) g))
    (fun w1 Q h1 hq => b0_guess (d := d + 3) hw h1 (hq w1 [] [] (by_fr.rf _ _ _) (fun c q => by cases q) (Or.inl h1)))
theorem bz_ways {a0 : Int32} {x : Int64} : bv_all E (d + 14) mX11_ways mX12_ways [.int a0, .long x] := by
  refine bv_or (fun K w hK h9 => ?_) bv_ways
  obtain ⟨S, hw, h, hy, hZ⟩ := h9
  exact bv_mk0 (S := S) (S' := st_wayz S a0 x) (r := br_ways S a0 x) (bm_wfS_wayz hw) hy
    (fun Q hq => qx_ways (d := d + 8) hw (by omega) h (fun w' f g => hq w' bx_wyl f (by decide) (hZ.fr' f (by decide)) g))
    (fun w1 Q h1 hq => b0_ways (d := d + 1) h1 (hq w1 [] [] (by_fr.rf _ _ _) (fun c q => by cases q) (Or.inl (by rw [(b0_S h1).2.2.2.2]; exact h1))))
theorem bz_fault {a0 : Int32} : bv_all E (d + 14) mX11_fault mX12_fault [.int a0] := by
  refine bv_or (fun K w hK h9 => ?_) bv_fault
  obtain ⟨S, hw, h, hy, hZ⟩ := h9
  exact bv_mk0 (S := S) (S' := S) (r := br_fault S a0) (hw.up (by omega)) hy
    (fun Q hq => qx_fault (d := d + 5) hw h hZ hq)
    (fun w1 Q h1 hq => b0_fault (d := d + 5) hw h1 (fun w' f g => hq w' by_txl by_txf f (by decide) (Or.inl g)))
theorem bz_text {a0 : Int32} : bv_all E (d + 14) mX11_text mX12_text [.int a0] := by
  refine bv_or (fun K w hK h9 => ?_) bv_text
  obtain ⟨S, hw, h, hy, hZ⟩ := h9
  exact bv_mk0 (S := S) (S' := st_text S a0) (r := br_text S a0) ((bm_wfS_text hw).up (by omega)) hy
    (fun Q hq => qx_text (d := d + 5) hw h hZ hq)
    (fun w1 Q h1 hq => b0_text (d := d + 5) hw h1 (fun w' f g => hq w' by_txl by_txf f (by decide) g))
end PAIRS0
