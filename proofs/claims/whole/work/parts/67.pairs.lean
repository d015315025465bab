/-! a call of the class, then the same call of the reference -/
theorem bw_run_mono {E : bw_E} {d : Nat} {M : bw_M} {A : List Value} {w : bw_W} {Q Q2 : Option Value → bw_W → Prop} (hm : ∀ r w', Q r w' → Q2 r w') (h : bw_run E d M A w Q) : bw_run E d M A w Q2 := by
  intro l p e ha hc hk s m args below hf hap hP ht
  obtain ⟨k, o, h1, h2, h3, ⟨⟨r, w', e1, e2, e3⟩, hF⟩, hr⟩ := h l p e ha hc hk s m args below hf hap hP ht
  exact ⟨k, o, h1, h2, h3, ⟨⟨r, w', e1, hm r w' e2, e3⟩, hF⟩, hr⟩
/-- both hold one state, of at most K acts -/
def bv_I (K : Nat) (w : bw_W) : Prop := ∃ S, bm_wfS K S ∧ bx_S S w ∧ by_S S w ∧ bx_Z w
def bv_two (E : bw_E) (d : Nat) (MX MM : bw_M) (A : List Value) : Prop := ∀ K w, K < 2 ^ 29 → bv_I K w → ∃ (r : Int32) (Q1 : bw_W → Prop), bw_run E d MX (.ref 0 :: A) w (fun o w1 => o = some (.int r) ∧ Q1 w1) ∧ ∀ w1, Q1 w1 → bw_run E d MM (.ref 50 :: A) w1 (fun o w2 => o = some (.int r) ∧ bv_I (K + 40) w2)
theorem bv_mk {E : bw_E} {d K : Nat} {S S' : bm_S} {w : bw_W} {MX MM : bw_M} {A : List Value} {r : Int32} (hw' : bm_wfS (K + 40) S') (hy : by_S S w)
    (X : ∀ Q : Int32 → bw_W → Prop, (∀ w' L, bw_fr L w w' → (∀ c, c ∈ L → c < 50 ∨ 76 < c) → bx_Z w' → bx_S S' w' → Q r w') → bw_ri E d MX (.ref 0 :: A) w Q)
    (Y : ∀ (w1 : bw_W) (Q : Int32 → bw_W → Prop), by_S S w1 → (∀ w' F G, by_fr F G w1 w' → (∀ c, c ∈ F → 50 ≤ c ∧ c ≤ 76) → by_S S' w' → Q r w') → bw_ri E d MM (.ref 50 :: A) w1 Q) :
    ∃ (r : Int32) (Q1 : bw_W → Prop), bw_run E d MX (.ref 0 :: A) w (fun o w1 => o = some (.int r) ∧ Q1 w1) ∧ ∀ w1, Q1 w1 → bw_run E d MM (.ref 50 :: A) w1 (fun o w2 => o = some (.int r) ∧ bv_I (K + 40) w2) := by
  refine ⟨r, fun w1 => bx_Z w1 ∧ bx_S S' w1 ∧ by_S S w1, bw_run_mono (Q := bw_qi (fun v w1 => v = r ∧ bx_Z w1 ∧ bx_S S' w1 ∧ by_S S w1)) (fun o w1 h => ?_) (X _ (fun w' L f hl z h => ⟨rfl, z, h, hy.frx f hl⟩)), fun w1 h => ?_⟩
  · obtain ⟨v, h1, rfl, h2⟩ := h
    exact ⟨h1, h2⟩
  · obtain ⟨z, hx, hy1⟩ := h
    refine bw_run_mono (Q := bw_qi (fun v w2 => v = r ∧ bv_I (K + 40) w2)) (fun o w1 h => ?_) (Y w1 _ hy1 (fun w' F G f hF h' => ⟨rfl, S', hw', hx.fry hw' f hF, h', fun i hi => ?_⟩))
    · obtain ⟨v, h1, rfl, h2⟩ := h
      exact ⟨h1, h2⟩
    · rw [f.i (fun q => by have := hF 13 q; omega) (by decide)]; exact z i hi
/-- a bool's method as an int's -/
theorem bw_rb_ri {E : bw_E} {d : Nat} {M : bw_M} {A : List Value} {w : bw_W} {Q : Int32 → bw_W → Prop} (h : bw_rb E d M A w (fun b w' => Q (bw_b b) w')) : bw_ri E d M A w Q := bw_run_mono (fun o w' h => by
  obtain ⟨b, h1, h2⟩ := h
  exact ⟨bw_b b, h1, h2⟩) h
theorem bm_wfS_tell {K : Nat} {S : bm_S} {a b c : Int32} {u : List Nat} (hu : bm_ok u) (h : bm_wfS K S) : bm_wfS (K + 1) (st_tell S (br_ref (st_X S) (st_N S) 3 a b c u)) := by
  have h1 := bm_wfS_act (f := true) (s := 3) (a := a) (b := b) (c := c) (by decide) hu h
  unfold st_tell
  split
  · exact bm_wfS_tp h1 bm_wfT_nil
  · exact h1
section PAIRS
variable {E : bw_E} {d : Nat}
theorem by_S.N {S : bm_S} {w : bw_W} (h : by_S S w) : by_N (st_N S) w := by_N_iff.mpr h.2.2.1.1
theorem bv_form {a0 a1 a2 a3 : Int32} : bv_two E (d + 14) mX11_form mX12_form [.int a0, .int a1, .int a2, .int a3] := by
  intro K w hK ⟨S, hw, h, hy, hZ⟩
  exact bv_mk (S := S) (S' := S) (r := (br_form (st_X S) (st_N S) a0 a1 a2 a3)) (hw.up (by omega)) hy
    (fun Q hq => qx_form (d := d + 11) h.2.1 h.2.2.2.1 hw.2.2.1.1 hw.2.1 (hq w [] (bw_fr.rf _ _) (fun c q => by cases q) hZ h))
    (fun w1 Q h1 hq => qm_form (d := d + 10) h1.2.1 h1.N hw.2.2.1.1 hw.2.1 (hq w1 [] [] (by_fr.rf _ _ _) (fun c q => by cases q) h1))
theorem bv_def {a0 a1 a2 : Int32} : bv_two E (d + 14) mX11_byDefault mX12_byDefault [.int a0, .int a1, .int a2] := by
  intro K w hK ⟨S, hw, h, hy, hZ⟩
  exact bv_mk (S := S) (S' := S) (r := (br_def (st_X S) (st_N S) a0 a1 a2)) (hw.up (by omega)) hy
    (fun Q hq => qx_def (d := d + 13) h.2.1 h.2.2.2.1 hw.2.2.1.1 hw.2.1 (hq w [] (bw_fr.rf _ _) (fun c q => by cases q) hZ h))
    (fun w1 Q h1 hq => qm_def (d := d + 11) h1.2.1 h1.N hw.2.2.1.1 hw.2.1 (hq w1 [] [] (by_fr.rf _ _ _) (fun c q => by cases q) h1))
theorem bv_hole {a0 a1 : Int32} : bv_two E (d + 14) mX11_hole mX12_hole [.int a0, .int a1] := by
  intro K w hK ⟨S, hw, h, hy, hZ⟩
  exact bv_mk (S := S) (S' := S) (r := (br_hole (st_X S) (st_N S) a0 a1)) (hw.up (by omega)) hy
    (fun Q hq => qx_hole (d := d + 13) h.2.1 h.2.2.1 h.2.2.2.1 hw.2.2.1.1 hw.2.1 (hq w [] (bw_fr.rf _ _) (fun c q => by cases q) hZ h))
    (fun w1 Q h1 hq => qm_hole (d := d + 12) h1.2.1 h1.N hw.2.2.1.1 hw.2.1 (hq w1 [] [] (by_fr.rf _ _ _) (fun c q => by cases q) h1))
theorem bv_bare {a0 : Int32} : bv_two E (d + 14) mX11_bare mX12_bare [.int a0] := by
  intro K w hK ⟨S, hw, h, hy, hZ⟩
  exact bv_mk (S := S) (S' := S) (r := (br_bare (st_X S) (st_N S) a0)) (hw.up (by omega)) hy
    (fun Q hq => qx_bare (d := d + 13) h.2.1 h.2.2.2.1 hw.2.2.1.1 hw.2.1 (hq w [] (bw_fr.rf _ _) (fun c q => by cases q) hZ h))
    (fun w1 Q h1 hq => qm_bare (d := d + 12) h1.2.1 h1.N hw.2.2.1.1 hw.2.1 (hq w1 [] [] (by_fr.rf _ _ _) (fun c q => by cases q) h1))
theorem bv_msg {a0 a1 : Int32} : bv_two E (d + 14) mX11_message mX12_message [.int a0, .int a1] := by
  intro K w hK ⟨S, hw, h, hy, hZ⟩
  exact bv_mk (S := S) (S' := S) (r := (br_msg (st_X S) (st_N S) a0 a1)) (hw.up (by omega)) hy
    (fun Q hq => qx_msg (d := d + 9) h.2.1 h.2.2.2.1 hw.2.2.1.1 hw.2.1 (fun w' f => hq w' [35, 36] f (by decide) (hZ.fr' f (by decide)) (h.fr hw f (by unfold bx_sc; decide))))
    (fun w1 Q h1 hq => qm_msg (d := d + 8) h1.2.1 h1.N hw.2.2.1.1 hw.2.1 (fun w' f => hq w' [71] [37, 38, 39, 40] f (by decide) (h1.fr f (by unfold by_sc; decide) (by unfold by_sf; decide))))
theorem bv_told {a0 a1 : Int32} : bv_two E (d + 14) mX11_told mX12_told_ [.int a0, .int a1] := by
  intro K w hK ⟨S, hw, h, hy, hZ⟩
  exact bv_mk (S := S) (S' := S) (r := (br_told (st_X S) (st_N S) a0 a1)) (hw.up (by omega)) hy
    (fun Q hq => qx_told (d := d + 9) h.2.1 h.2.2.2.1 hw.2.2.1.1 hw.2.1 (fun w' f => hq w' [35, 36] f (by decide) (hZ.fr' f (by decide)) (h.fr hw f (by unfold bx_sc; decide))))
    (fun w1 Q h1 hq => qm_told (d := d + 8) h1.2.1 h1.N hw.2.2.1.1 hw.2.1 (fun w' f => hq w' [71] [37, 38, 39, 40] f (by decide) (h1.fr f (by unfold by_sc; decide) (by unfold by_sf; decide))))
theorem bv_why {a0 a1 : Int32} : bv_two E (d + 14) mX11_why mX12_why [.int a0, .int a1] := by
  intro K w hK ⟨S, hw, h, hy, hZ⟩
  exact bv_mk (S := S) (S' := S) (r := (br_why (st_X S) (st_N S) a0 a1)) (hw.up (by omega)) hy
    (fun Q hq => qx_why (d := d + 10) h.2.1 h.2.2.2.1 hw.2.2.1.1 hw.2.1 (fun w' f => hq w' [35, 36] f (by decide) (hZ.fr' f (by decide)) (h.fr hw f (by unfold bx_sc; decide))))
    (fun w1 Q h1 hq => qm_why (d := d + 8) h1.2.1 h1.N hw.2.2.1.1 hw.2.1 (fun w' f => hq w' [71] [37, 38, 39, 40] f (by decide) (h1.fr f (by unfold by_sc; decide) (by unfold by_sf; decide))))
theorem bv_miss {a0 a1 a2 : Int32} : bv_two E (d + 14) mX11_missing mX12_missing [.int a0, .int a1, .int a2] := by
  intro K w hK ⟨S, hw, h, hy, hZ⟩
  exact bv_mk (S := S) (S' := S) (r := (br_miss (st_X S) (st_N S) a0 a1 a2)) (hw.up (by omega)) hy
    (fun Q hq => qx_miss (d := d + 10) h.2.1 h.2.2.2.1 hw.2.2.1.1 hw.2.1 (hq w [] (bw_fr.rf _ _) (fun c q => by cases q) hZ h))
    (fun w1 Q h1 hq => qm_miss (d := d + 9) h1.2.1 h1.N hw.2.2.1.1 hw.2.1 (hq w1 [] [] (by_fr.rf _ _ _) (fun c q => by cases q) h1))
theorem bv_needs {a0 : Int32} : bv_two E (d + 14) mX11_needs mX12_needs [.int a0] := by
  intro K w hK ⟨S, hw, h, hy, hZ⟩
  exact bv_mk (S := S) (S' := S) (r := (br_needs (st_X S) (st_N S) a0)) (hw.up (by omega)) hy
    (fun Q hq => qx_needs (d := d + 12) h.2.1 h.2.2.2.1 hw.2.2.1.1 hw.2.1 (hq w [] (bw_fr.rf _ _) (fun c q => by cases q) hZ h))
    (fun w1 Q h1 hq => qm_needs (d := d + 12) h1.2.1 h1.N hw.2.2.1.1 hw.2.1 (hq w1 [] [] (by_fr.rf _ _ _) (fun c q => by cases q) h1))
theorem bv_fits {a0 a1 : Int32} : bv_two E (d + 14) mX11_fits mX12_fits [.int a0, .int a1] := by
  intro K w hK ⟨S, hw, h, hy, hZ⟩
  exact bv_mk (S := S) (S' := S) (r := (br_fits (st_X S) (st_N S) a0 a1)) (hw.up (by omega)) hy
    (fun Q hq => qx_fits (d := d + 12) h.2.1 h.2.2.2.1 hw.2.2.1.1 hw.2.1 (hq w [] (bw_fr.rf _ _) (fun c q => by cases q) hZ h))
    (fun w1 Q h1 hq => qm_fits (d := d + 10) h1.2.1 h1.N hw.2.2.1.1 hw.2.1 (hq w1 [] [] (by_fr.rf _ _ _) (fun c q => by cases q) h1))
theorem bv_alike {a0 : Int32} : bv_two E (d + 14) mX11_alike mX12_alike [.int a0] := by
  intro K w hK ⟨S, hw, h, hy, hZ⟩
  exact bv_mk (S := S) (S' := S) (r := (br_alike (st_X S) (st_N S) a0)) (hw.up (by omega)) hy
    (fun Q hq => qx_alike (d := d + 10) h.2.1 h.2.2.2.1 hw.2.2.1.1 hw.2.1 (hq w [] (bw_fr.rf _ _) (fun c q => by cases q) hZ h))
    (fun w1 Q h1 hq => qm_alike (d := d + 9) h1.2.1 h1.N hw.2.2.1.1 hw.2.1 (hq w1 [] [] (by_fr.rf _ _ _) (fun c q => by cases q) h1))
theorem bv_rule {a0 : Int32} : bv_two E (d + 14) mX11_rule mX12_rule [.int a0] := by
  intro K w hK ⟨S, hw, h, hy, hZ⟩
  exact bv_mk (S := S) (S' := S) (r := (br_rule (st_X S) (st_N S) a0)) (hw.up (by omega)) hy
    (fun Q hq => qx_rule (d := d + 9) h.2.1 h.2.2.1 h.2.2.2.1 hw.2.2.1.1 hw.2.1 (fun w' f => hq w' [35] f (by decide) (hZ.fr' f (by decide)) (h.fr hw f (by unfold bx_sc; decide))))
    (fun w1 Q h1 hq => qm_rule (d := d + 7) h1.2.1 h1.N hw.2.2.1.1 hw.2.2.1.2 hw.2.1 (fun w' f => hq w' [71] [37, 38, 39, 40] f (by decide) (h1.fr f (by unfold by_sc; decide) (by unfold by_sf; decide))))
theorem bv_most {a0 : Int32} : bv_two E (d + 14) mX11_most mX12_most [.int a0] := by
  intro K w hK ⟨S, hw, h, hy, hZ⟩
  exact bv_mk (S := S) (S' := S) (r := (br_most (st_X S) (st_N S) a0)) (hw.up (by omega)) hy
    (fun Q hq => qx_most (d := d + 8) h.2.1 h.2.2.1 h.2.2.2.1 hw.2.2.1.1 hw.2.1 (fun w' f => hq w' [35, 36] f (by decide) (hZ.fr' f (by decide)) (h.fr hw f (by unfold bx_sc; decide))))
    (fun w1 Q h1 hq => qm_most (d := d + 7) h1.2.1 h1.N hw.2.2.1.1 hw.2.2.1.2 hw.2.1 (fun w' f => hq w' [71] [37, 38, 39, 40, 48, 49] f (by decide) (h1.fr f (by unfold by_sc; decide) (by unfold by_sf; decide))))
theorem bv_word {p : Bool} {a1 a2 a3 a4 : Int32} : bv_two E (d + 14) mX11_word mX12_word [.int (bw_b p), .int a1, .int a2, .int a3, .int a4] := by
  intro K w hK ⟨S, hw, h, hy, hZ⟩
  exact bv_mk (S := S) (S' := S) (r := br_word (st_X S) p a1 a2 a3 a4) (hw.up (by omega)) hy
    (fun Q hq => qx_word (d := d + 11) h.2.1 h.2.2.1 hw.2.1 (hq w [] (bw_fr.rf _ _) (fun c q => by cases q) hZ h))
    (fun w1 Q h1 hq => qm_word (d := d + 11) h1.2.1 hw.2.1 (hq w1 [] [] (by_fr.rf _ _ _) (fun c q => by cases q) h1))
theorem bv_can {a0 : Int32} : bv_two E (d + 14) mX11_canBe mX12_canBe [.int a0] := by
  intro K w hK ⟨S, hw, h, hy, hZ⟩
  exact bv_mk (S := S) (S' := S) (r := br_can (st_X S) (st_N S) (st_t S) a0) (hw.up (by omega)) hy
    (fun Q hq => qx_can (d := d + 10) hw.1 h.1 h.2.1 h.2.2.2.1 hw.2.2.1.1 hw.2.1 (fun w' f => hq w' [3] f (by decide) (hZ.fr' f (by decide)) (h.fr hw f (by unfold bx_sc; decide))))
    (fun w1 Q h1 hq => qm_can (d := d + 9) hw.1 h1.1 h1.2.1 h1.N hw.2.2.1.1 hw.2.1 (fun w' f => hq w' [] _ f (fun c q => by cases q) (by_S_tf h1 f)))
theorem bv_feed {a0 a1 a2 a3 a4 : Int32} : bv_two E (d + 14) mX11_feed mX12_feed [.int a0, .int a1, .int a2, .int a3, .int a4] := by
  intro K w hK ⟨S, hw, h, hy, hZ⟩
  exact bv_mk (S := S) (S' := st_tp S (bt_feed (st_t S) a0 a1 a2 a3 a4)) (r := br_feed (st_t S) a0 a1 a2 a3 a4) (bm_wfS_tp (hw.up (by omega)) (bm_wf_feed hw.1 _ _ _ _ _)) hy
    (fun Q hq => qx_feed (d := d + 13) h.1 hw.1 (fun w' f g => hq w' [1, 2] f (by decide) (hZ.fr' f (by decide)) (bx_S_tp hw h f g)))
    (fun w1 Q h1 hq => qm_feed (d := d + 13) h1.1 hw.1 (fun w' f g => hq w' [51] [2] f (by decide) (by_S_tp h1 f g)))
theorem bv_end {a0 : Int32} : bv_two E (d + 14) mX11_end mX12_end [.int a0] := by
  intro K w hK ⟨S, hw, h, hy, hZ⟩
  exact bv_mk (S := S) (S' := st_tp S (bt_end (st_t S) a0)) (r := bw_b (br_end (st_t S) a0)) (bm_wfS_tp (hw.up (by omega)) (bm_wf_end hw.1 _)) hy
    (fun Q hq => bw_rb_ri (qx_end (d := d + 14) h.1 hw.1 (fun w' f g => hq w' [1, 2] f (by decide) (hZ.fr' f (by decide)) (bx_S_tp hw h f g))))
    (fun w1 Q h1 hq => bw_rb_ri (qm_end (d := d + 13) h1.1 hw.1 (fun w' f g => hq w' [51] [2] f (by decide) (by_S_tp h1 f g))))
theorem bv_count {a0 : Int32} : bv_two E (d + 14) mX11_count mX12_count [.int a0] := by
  intro K w hK ⟨S, hw, h, hy, hZ⟩
  exact bv_mk (S := S) (S' := S) (r := br_count S a0) (hw.up (by omega)) hy
    (fun Q hq => qx_count (d := d + 12) hw (by omega) h (hq w [] (bw_fr.rf _ _) (fun c q => by cases q) hZ h))
    (fun w1 Q h1 hq => qm_count (d := d + 14) h1 (hq w1 [] [] (by_fr.rf _ _ _) (fun c q => by cases q) h1))
theorem bv_stat {a0 : Int32} : bv_two E (d + 14) mX11_status mX12_status [.int a0] := by
  intro K w hK ⟨S, hw, h, hy, hZ⟩
  exact bv_mk (S := S) (S' := S) (r := br_stat S a0) (hw.up (by omega)) hy
    (fun Q hq => qx_stat (d := d + 14) h (hq w [] (bw_fr.rf _ _) (fun c q => by cases q) hZ h))
    (fun w1 Q h1 hq => qm_stat (d := d + 13) h1 (hq w1 [] [] (by_fr.rf _ _ _) (fun c q => by cases q) h1))
theorem bv_log {a0 a1 : Int32} : bv_two E (d + 14) mX11_log mX12_log [.int a0, .int a1] := by
  intro K w hK ⟨S, hw, h, hy, hZ⟩
  exact bv_mk (S := S) (S' := S) (r := br_log S a0 a1) (hw.up (by omega)) hy
    (fun Q hq => qx_log (d := d + 12) hw (by omega) h (hq w [] (bw_fr.rf _ _) (fun c q => by cases q) hZ h))
    (fun w1 Q h1 hq => qm_log (d := d + 13) h1 (hq w1 [] [] (by_fr.rf _ _ _) (fun c q => by cases q) h1))
theorem bv_step {a0 a1 a2 : Int32} : bv_two E (d + 14) mX11_step mX12_step [.int a0, .int a1, .int a2] := by
  intro K w hK ⟨S, hw, h, hy, hZ⟩
  exact bv_mk (S := S) (S' := S) (r := br_step S a0 a1 a2) (hw.up (by omega)) hy
    (fun Q hq => qx_step (d := d + 12) hw h (hq w [] (bw_fr.rf _ _) (fun c q => by cases q) hZ h))
    (fun w1 Q h1 hq => qm_step (d := d + 12) hw h1 (hq w1 [] [] (by_fr.rf _ _ _) (fun c q => by cases q) h1))
theorem bv_fill {a0 a1 a2 : Int32} : bv_two E (d + 14) mX11_fill mX12_fill [.int a0, .int a1, .int a2] := by
  intro K w hK ⟨S, hw, h, hy, hZ⟩
  exact bv_mk (S := S) (S' := st_act S true (br_ref (st_X S) (st_N S) 0 a0 a1 a2 [])) (r := br_hand S (br_ref (st_X S) (st_N S) 0 a0 a1 a2 [])) ((bm_wfS_act (by decide) bm_ok_nil hw).up (by omega)) hy
    (fun Q hq => qx_fill (d := d + 8) hw (by omega) h (fun w' f g => hq w' bx_ol f (by decide) (hZ.fr' f (by decide)) g))
    (fun w1 Q h1 hq => qm_fill (d := d + 3) hw h1 (fun w' f g => hq w' by_al by_aff f (by decide) g))
theorem bv_empty {a0 : Int32} : bv_two E (d + 14) mX11_empty mX12_empty [.int a0] := by
  intro K w hK ⟨S, hw, h, hy, hZ⟩
  exact bv_mk (S := S) (S' := st_act S true (br_ref (st_X S) (st_N S) 1 a0 0 0 [])) (r := br_hand S (br_ref (st_X S) (st_N S) 1 a0 0 0 [])) ((bm_wfS_act (by decide) bm_ok_nil hw).up (by omega)) hy
    (fun Q hq => qx_empty (d := d + 8) hw (by omega) h (fun w' f g => hq w' bx_ol f (by decide) (hZ.fr' f (by decide)) g))
    (fun w1 Q h1 hq => qm_empty (d := d + 3) hw h1 (fun w' f g => hq w' by_al by_aff f (by decide) g))
theorem bv_strict {a0 : Int32} : bv_two E (d + 14) mX11_strict mX12_strict [.int a0] := by
  intro K w hK ⟨S, hw, h, hy, hZ⟩
  exact bv_mk (S := S) (S' := st_act S true (br_ref (st_X S) (st_N S) 2 a0 0 0 [])) (r := br_hand S (br_ref (st_X S) (st_N S) 2 a0 0 0 [])) ((bm_wfS_act (by decide) bm_ok_nil hw).up (by omega)) hy
    (fun Q hq => qx_strict (d := d + 8) hw (by omega) h (fun w' f g => hq w' bx_ol f (by decide) (hZ.fr' f (by decide)) g))
    (fun w1 Q h1 hq => qm_strict (d := d + 3) hw h1 (fun w' f g => hq w' by_al by_aff f (by decide) g))
theorem bv_drop {a0 a1 a2 : Int32} : bv_two E (d + 14) mX11_drop mX12_drop [.int a0, .int a1, .int a2] := by
  intro K w hK ⟨S, hw, h, hy, hZ⟩
  exact bv_mk (S := S) (S' := st_act S true (br_ref (st_X S) (st_N S) 4 a0 a1 a2 [])) (r := br_hand S (br_ref (st_X S) (st_N S) 4 a0 a1 a2 [])) ((bm_wfS_act (by decide) bm_ok_nil hw).up (by omega)) hy
    (fun Q hq => qx_drop (d := d + 8) hw (by omega) h (fun w' f g => hq w' bx_ol f (by decide) (hZ.fr' f (by decide)) g))
    (fun w1 Q h1 hq => qm_drop (d := d + 3) hw h1 (fun w' f g => hq w' by_al by_aff f (by decide) g))
theorem bv_tell {a0 a1 a2 : Int32} : bv_two E (d + 14) mX11_tell mX12_tell [.int a0, .int a1, .int a2] := by
  intro K w hK ⟨S, hw, h, hy, hZ⟩
  exact bv_mk (S := S) (S' := st_tell S (br_ref (st_X S) (st_N S) 3 a0 a1 a2 (bp_alone (st_t S)))) (r := br_hand S (br_ref (st_X S) (st_N S) 3 a0 a1 a2 (bp_alone (st_t S)))) ((bm_wfS_tell (bp_alone_ok _) hw).up (by omega)) hy
    (fun Q hq => qx_tell (d := d + 8) hw (by omega) h (fun w' f g => hq w' bx_tl f (by decide) (hZ.fr' f (by decide)) g))
    (fun w1 Q h1 hq => qm_tell (d := d + 3) hw h1 (fun w' f g => hq w' by_tll by_tlf f (by decide) g))
theorem bv_would {a0 a1 a2 : Int32} : bv_two E (d + 14) mX11_would mX12_would [.int a0, .int a1, .int a2] := by
  intro K w hK ⟨S, hw, h, hy, hZ⟩
  exact bv_mk (S := S) (S' := S) (r := br_would S (br_ref (st_X S) (st_N S) 0 a0 a1 a2 [])) (hw.up (by omega)) hy
    (fun Q hq => qx_would (d := d + 9) hw h (fun w' f g => hq w' bx_wl f (by decide) (hZ.fr' f (by decide)) g))
    (fun w1 Q h1 hq => qm_would (d := d + 7) hw h1 (fun w' f g => hq w' by_wl by_wf f (by decide) g))
theorem bv_undo : bv_two E (d + 14) mX11_undo mX12_undo [] := by
  intro K w hK ⟨S, hw, h, hy, hZ⟩
  exact bv_mk (S := S) (S' := st_undo S) (r := br_undo S) ((bm_wfS_undo hw).up (by omega)) hy
    (fun Q hq => qx_undo (d := d + 13) hw (by omega) h (fun w' f g => hq w' bx_ul f (by decide) (hZ.fr' f (by decide)) g))
    (fun w1 Q h1 hq => qm_undo (d := d + 14) hw h1 (fun w' f g => hq w' [63] [42] f (by decide) g))
theorem bv_image : bv_two E (d + 14) mX11_image mX12_image [] := by
  intro K w hK ⟨S, hw, h, hy, hZ⟩
  exact bv_mk (S := S) (S' := st_image S) (r := br_image S) ((bm_wfS_image hw).up (by omega)) hy
    (fun Q hq => qx_image (d := d + 8) hw h (fun w' f g => hq w' bx_il f (by decide) (hZ.fr' f (by decide)) g))
    (fun w1 Q h1 hq => qm_image (d := d + 6) hw h1 (fun w' f g => hq w' [71, 76] [37, 38, 39, 40, 51] f (by decide) g))
theorem bv_back : bv_two E (d + 14) mX11_back mX12_back [] := by
  intro K w hK ⟨S, hw, h, hy, hZ⟩
  exact bv_mk (S := S) (S' := st_back S) (r := br_back S) ((bm_wfS_back hw).up (by omega)) hy
    (fun Q hq => qx_back (d := d + 8) hw h (fun w' f g => hq w' bx_bl f (by decide) (hZ.fr' f (by decide)) g))
    (fun w1 Q h1 hq => qm_back (d := d + 6) hw h1 (fun w' f g => hq w' [63, 71] [37, 38, 39, 40, 42] f (by decide) g))
theorem bv_perf {a0 : Int32} : bv_two E (d + 14) mX11_perform mX12_perform [.int a0] := by
  intro K w hK ⟨S, hw, h, hy, hZ⟩
  exact bv_mk (S := S) (S' := st_perf S a0) (r := br_perf S a0) ((bm_wfS_perf hw).up (by omega)) hy
    (fun Q hq => qx_perf (d := d + 8) hw (by omega) h (fun w' f g => hq w' bx_al f (by decide) (hZ.fr' f (by decide)) g))
    (fun w1 Q h1 hq => qm_perf (d := d + 3) hw h1 (fun w' f g => hq w' by_al by_aff f (by decide) g))
theorem bv_run {a0 a1 : Int32} : bv_two E (d + 14) mX11_run mX12_run [.int a0, .int a1] := by
  intro K w hK ⟨S, hw, h, hy, hZ⟩
  exact bv_mk (S := S) (S' := S) (r := br_run S a0 a1) (hw.up (by omega)) hy
    (fun Q hq => qx_run (d := d + 8) hw h (fun w' f g => hq w' bx_rl f (by decide) (hZ.fr' f (by decide)) g))
    (fun w1 Q h1 hq => qm_run (d := d + 3) hw h1 (fun w' f g => hq w' by_wl by_wf f (by decide) g))
theorem bv_guess {a0 a1 : Int32} : bv_two E (d + 14) mX11_guess mX12_guess [.int a0, .int a1] := by
  intro K w hK ⟨S, hw, h, hy, hZ⟩
  exact bv_mk (S := S) (S' := S) (r := br_guess (st_X S) (st_N S) (st_t S) a0 a1) (hw.up (by omega)) hy
    (fun Q hq => qx_guess (d := d + 8) hw h (fun w' f g => hq w' bx_gl f (by decide) (hZ.fr' f (by decide)) g))
    (fun w1 Q h1 hq => qm_guess (d := d + 0) hw h1 (fun w' f g => hq w' by_gql by_gf f (by decide) g))
theorem bv_ways {a0 : Int32} {x : Int64} : bv_two E (d + 14) mX11_ways mX12_ways [.int a0, .long x] := by
  intro K w hK ⟨S, hw, h, hy, hZ⟩
  exact bv_mk (S := S) (S' := st_wayz S a0 x) (r := br_ways S a0 x) (bm_wfS_wayz hw) hy
    (fun Q hq => qx_ways (d := d + 8) hw (by omega) h (fun w' f g => hq w' bx_wyl f (by decide) (hZ.fr' f (by decide)) g))
    (fun w1 Q h1 hq => qm_ways (d := d + 1) hw h1 (fun w' f g => hq w' by_al by_wyf f (by decide) g))
theorem bv_fault {a0 : Int32} : bv_two E (d + 14) mX11_fault mX12_fault [.int a0] := by
  intro K w hK ⟨S, hw, h, hy, hZ⟩
  exact bv_mk (S := S) (S' := S) (r := br_fault S a0) (hw.up (by omega)) hy
    (fun Q hq => qx_fault (d := d + 5) hw h hZ hq)
    (fun w1 Q h1 hq => qm_fault (d := d + 5) hw h1 (fun w' f g => hq w' by_txl by_txf f (by decide) g))
theorem bv_text {a0 : Int32} : bv_two E (d + 14) mX11_text mX12_text [.int a0] := by
  intro K w hK ⟨S, hw, h, hy, hZ⟩
  exact bv_mk (S := S) (S' := st_text S a0) (r := br_text S a0) ((bm_wfS_text hw).up (by omega)) hy
    (fun Q hq => qx_text (d := d + 5) hw h hZ hq)
    (fun w1 Q h1 hq => qm_text (d := d + 5) hw h1 (fun w' f g => hq w' by_txl by_txf f (by decide) g))
end PAIRS
