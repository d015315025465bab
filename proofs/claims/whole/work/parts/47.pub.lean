/-! acts as they are called, on both sides -/
theorem br_ft : ¬ (false = true) := by decide
theorem br_tf : ¬ (true = false) := by decide
def st_tp (S : bm_S) (t : List Nat) : bm_S := (t, S.2)
theorem bx_S_tp {K : Nat} {S : bm_S} {t : List Nat} {w w' : bw_W} (hw : bm_wfS K S) (h : bx_S S w) (hf : bw_fr [1, 2] w w') (hT : bx_T t w') : bx_S (st_tp S t) w' := by
  obtain ⟨h1, h2, h3, h4, h5, h6, h7, h8, h9⟩ := h
  have hl : ∀ c, c ∈ [1, 2] → c < 78 := by decide
  exact ⟨hT, h2.fr hf (by decide), h3.fr hf (by decide), h4.fr hf (by decide), h5.fr hf (by decide) (by decide), h6.fr hf (by decide) (by decide) (by decide), h7.fr hf (by decide) (by decide) (by decide) (by decide), h8.fr hw.2.2.2.2.2.2 hf (by decide) (fun c q => Or.inl (hl c q)), h9.fr hf (by decide)⟩
theorem by_S_tp {S : bm_S} {t : List Nat} {w w' : bw_W} (h : by_S S w) (hf : by_fr [51] [2] w w') (hT : by_T t w') : by_S (st_tp S t) w' := by
  obtain ⟨h1, h2, h3, h4, h5, h6, h7⟩ := h
  exact ⟨hT, h2.fr hf (by decide) (by decide) (by decide), by rw [hf.fl (by decide) (by decide)]; exact h3, h4.fr hf (by decide) (by decide), h5.fr hf (by decide) (by decide), h6.fr hf (by decide) (by decide) (by decide) (by decide), h7.fr hf (by decide)⟩
theorem bm_wfS_tp {K : Nat} {S : bm_S} {t : List Nat} (h : bm_wfS K S) (ht : bm_wfT t) : bm_wfS K (st_tp S t) := ⟨ht, h.2⟩
theorem bm_wfT_nil : bm_wfT [] := ⟨by simp, by simp⟩
theorem bx_T_nil {w : bw_W} : bx_T [] (sw_i w 1 1 0) := ⟨by rw [gs_ii, if_pos ⟨rfl, rfl⟩]; rfl, fun i hi => absurd hi (Nat.not_lt_zero i)⟩
theorem by_T_nil {w : bw_W} : by_T [] (sw_i w 50 2 0) := ⟨by rw [gs_ii, if_pos ⟨rfl, rfl⟩]; rfl, fun i hi => absurd hi (Nat.not_lt_zero i)⟩
theorem bx_S.frN {k : Nat} {S : bm_S} {w w' : bw_W} {L : List Nat} (hw : bm_wfS k S) (h : bx_S S w) (hf : bw_fr L w w') (hl : ∀ c, c ∈ L → bx_sc c ∨ c = 32) (hN : bx_N (st_N S) w') : bx_S S w' := by
  have hn : ∀ c, ¬ bx_sc c → c ≠ 32 → c ∉ L := fun c h g q => (hl c q).elim h g
  unfold bx_sc at hn hl
  obtain ⟨h1, h2, h3, h4, h5, h6, h7, h8, h9⟩ := h
  refine ⟨h1.fr hf (hn _ (by omega) (by omega)) (hn _ (by omega) (by omega)), h2.fr hf (fun c q => by have := hl c q; omega), h3.fr hf (hn _ (by omega) (by omega)), hN, h5.fr hf (hn _ (by omega) (by omega)) (hn _ (by omega) (by omega)), h6.fr hf (hn _ (by omega) (by omega)) (hn _ (by omega) (by omega)) (hn _ (by omega) (by omega)), h7.fr hf (hn _ (by omega) (by omega)) (hn _ (by omega) (by omega)) (hn _ (by omega) (by omega)) (hn _ (by omega) (by omega)), h8.fr hw.2.2.2.2.2.2 hf (hn _ (by omega) (by omega)) (fun c q => by have := hl c q; omega), h9.fr hf (hn _ (by omega) (by omega))⟩
theorem by_S.frN {T : bm_S} {w w' : bw_W} {S F : List Nat} (h : by_S T w) (hf : by_fr S F w w') (hs : ∀ c, c ∈ S → by_sc c ∨ c = 63) (hk : ∀ c, c ∈ F → by_sf c) (h63 : ∀ i, i < 236 → gw_l w' 63 i = gw_l w 63 i) : by_S T w' := by
  have hn : ∀ c, ¬ by_sc c → c ≠ 63 → c ∉ S := fun c h g q => (hs c q).elim h g
  have hm : ∀ c, ¬ by_sf c → c ∉ F := fun c h q => h (hk c q)
  unfold by_sc at hn hs
  unfold by_sf at hm
  obtain ⟨h1, h2, h3, h4, h5, h6, h7⟩ := h
  refine ⟨h1.fr hf (hn _ (by omega) (by omega)) (hm _ (by omega)), h2.fr hf (fun c q => by have := hs c q; omega) (hm _ (by omega)) (hm _ (by omega)), by_Sf_congr h63 h3, h4.fr hf (hm _ (by omega)) (hn _ (by omega) (by omega)), h5.fr hf (hm _ (by omega)) (hn _ (by omega) (by omega)), h6.fr hf (hm _ (by omega)) (hn _ (by omega) (by omega)) (hn _ (by omega) (by omega)) (hn _ (by omega) (by omega)), h7.fr hf (hn _ (by omega) (by omega))⟩
section PUB
variable {E : bw_E} {d : Nat} {w : bw_W} {S : bm_S} {K : Nat}
abbrev bx_ol : List Nat := [49, 32, 35, 37, 38, 39, 40, 47]
theorem bx_own {s : Nat} {a b c : Int32} {v : Int64} {u : List Nat} (hv : s = 3 → v = bx_w u) : bw_fr [49] w (sw_l (sw_i (sw_i (sw_i (sw_i w 49 0 (nI s)) 49 1 a) 49 2 b) 49 3 c) 49 4 v) ∧ bx_sf s a b c u 49 (sw_l (sw_i (sw_i (sw_i (sw_i w 49 0 (nI s)) 49 1 a) 49 2 b) 49 3 c) 49 4 v) := by
  refine ⟨(((((bw_fr.rf _ _).si (by decide)).si (by decide)).si (by decide)).si (by decide)).sl (by decide), ?_, ?_, fun _ _ => ⟨?_, ?_⟩, fun z => ?_⟩
  · rw [gs_il, gs_ii, if_neg (by omega), gs_ii, if_neg (by omega), gs_ii, if_neg (by omega), gs_ii, if_pos ⟨rfl, rfl⟩]
  · rw [gs_il, gs_ii, if_neg (by omega), gs_ii, if_neg (by omega), gs_ii, if_pos ⟨rfl, rfl⟩]
  · rw [gs_il, gs_ii, if_neg (by omega), gs_ii, if_pos ⟨rfl, rfl⟩]
  · rw [gs_il, gs_ii, if_pos ⟨rfl, rfl⟩]
  · rw [gs_ll, if_pos ⟨rfl, rfl⟩]; exact hv z
theorem bx_sc49 : ∀ c, c ∈ [49] → bx_sc c := fun c q => by rw [List.mem_singleton.mp q]; unfold bx_sc; omega
theorem xs_own {Q : Bool → bw_W → Prop} {f : Bool} {s : Nat} {a b c : Int32} {v : Int64} {u : List Nat} (hw : bm_wfS K S) (hK : K < 2 ^ 30) (h : bx_S S w) (hs : s ≤ 4) (hu : bm_ok u) (hv : s = 3 → v = bx_w u) (hq : ∀ w', bw_fr bx_ol w w' → bx_S (st_act S f (br_ref (st_X S) (st_N S) s a b c u)) w' → Q (br_ok (br_ref (st_X S) (st_N S) s a b c u)) w') : bw_rb E (d + 5) mX11_act [.ref 0, .ref 49, .int (bw_b f)] (sw_l (sw_i (sw_i (sw_i (sw_i w 49 0 (nI s)) 49 1 a) 49 2 b) 49 3 c) 49 4 v) Q := by
  obtain ⟨f1, hs1⟩ := bx_own (w := w) (a := a) (b := b) (c := c) hv
  exact xs_act (d := d) hw hK (h.fr hw f1 bx_sc49) (by decide) hs hu hs1 (fun w' f' g => hq w' ((f1.up (by decide)).tr (f'.up (by decide))) g)
section FILL
variable {Q : Int32 → bw_W → Prop}
theorem qx_fill {a0 a1 a2 : Int32} (hw : bm_wfS K S) (hK : K < 2 ^ 30) (h : bx_S S w) (hq : ∀ w', bw_fr bx_ol w w' → bx_S (st_act S true (br_ref (st_X S) (st_N S) 0 a0 a1 a2 [])) w' → Q (br_hand S (br_ref (st_X S) (st_N S) 0 a0 a1 a2 [])) w') : bw_ri E (d + 6) mX11_fill [.ref 0, .int a0, .int a1, .int a2] w Q := by
  refine wfX11_fill ⟨fun v w3 => v = br_ok (br_ref (st_X S) (st_N S) 0 a0 a1 a2 []) ∧ bw_fr bx_ol w w3 ∧ bx_S (st_act S true (br_ref (st_X S) (st_N S) 0 a0 a1 a2 [])) w3, xs_own (f := true) (s := 0) (u := []) hw hK h (by decide) bm_ok_nil (fun z => absurd z (by decide)) (fun w' f g => ⟨rfl, f, g⟩), ?_⟩
  rintro _ w3 ⟨rfl, f3, h3⟩
  have q3 := hq w3 f3 h3
  cases e : br_ref (st_X S) (st_N S) 0 a0 a1 a2 [] with
  | inl e0 => rw [e] at q3; exact ⟨fun _ => q3, fun z => absurd z br_ft⟩
  | inr p =>
    rw [e] at q3 h3
    obtain ⟨er, _⟩ := br_ref_inr e
    obtain ⟨hr, hp1, ha, hbc, _⟩ := br_res_inr (by decide) bm_ok_nil er
    have hh : bm_hol (bm_do (st_N S) p) p.2.1 = some (p.2.2.1, p.2.2.2.1) := by
      unfold bm_do; rw [if_pos hp1]; exact bm_set_eq _ _ _
    have g0 := (hr.2.2.1 hp1).1
    have hN3 : bx_N (bm_do (st_N S) p) w3 := h3.2.2.2.1
    refine ⟨fun z => absurd z br_tf, fun _ => ?_⟩
    rw [ha]
    refine ⟨xv_in g0, ?_⟩
    rw [xv_num hN3 (bm_wfn_do hw.2.1 hw.2.2.1 hr).1 hw.2.1 g0 hh]
    have e2 : br_hand S (.inr p) = nI (bm_num p.2.2.2.1) := by show br_ans _ _ p = _; unfold br_ans; rw [if_pos hp1]
    rw [← e2]; exact q3
theorem br_ref1 {X : bm_X} {N : bm_N} {a b c : Int32} {u : List Nat} : br_ref X N 1 a b c u = if bm_nn X = 0 then .inl 0 else match bm_ix a 3 with
    | none => .inl 0
    | some h => if bm_hol N h = none then .inl 2 else .inr (1, h, 0, 0, []) := by
  unfold br_ref br_res
  by_cases hn : bm_nn X = 0
  · rw [if_pos hn, if_pos hn]
  · rw [if_neg hn, if_neg hn, if_neg (by decide), if_pos rfl]
    cases bm_ix a 3 with
    | none => rfl
    | some h =>
      show (if decide (bm_hol N h = none) = true then (.inl 2 : Nat ⊕ bm_P) else .inr (1, h, 0, 0, [])) = if bm_hol N h = none then .inl 2 else .inr (1, h, 0, 0, [])
      by_cases c : bm_hol N h = none
      · rw [if_pos (decide_eq_true c), if_pos c]
      · rw [if_neg (fun q => c (of_decide_eq_true q)), if_neg c]
theorem qx_empty {a0 : Int32} (hw : bm_wfS K S) (hK : K < 2 ^ 30) (h : bx_S S w) (hq : ∀ w', bw_fr bx_ol w w' → bx_S (st_act S true (br_ref (st_X S) (st_N S) 1 a0 0 0 [])) w' → Q (br_hand S (br_ref (st_X S) (st_N S) 1 a0 0 0 [])) w') : bw_ri E (d + 6) mX11_empty [.ref 0, .int a0] w Q := by
  have hA := xs_own (E := E) (d := d) (Q := fun v w3 => v = br_ok (br_ref (st_X S) (st_N S) 1 a0 0 0 []) ∧ bw_fr bx_ol w w3 ∧ bx_S (st_act S true (br_ref (st_X S) (st_N S) 1 a0 0 0 [])) w3) (f := true) (s := 1) (a := a0) (b := 0) (c := 0) (v := 0) (u := []) hw hK h (by decide) bm_ok_nil (fun z => absurd z (by decide)) (fun w' f g => ⟨rfl, f, g⟩)
  have hX := h.2.1
  have hN := h.2.2.2.1
  have hx := hw.2.1
  have hW := hw.2.2.1.1
  have e1 := br_ref1 (X := st_X S) (N := st_N S) (a := a0) (b := 0) (c := 0) (u := [])
  refine wfX11_empty ?_
  rw [bx_H0 h.2.2.1, bm_x3]
  have bad : ∀ e, br_ref (st_X S) (st_N S) 1 a0 0 0 [] = .inl e → ∀ (v2 : Bool) (w3 : bw_W), (v2 = br_ok (br_ref (st_X S) (st_N S) 1 a0 0 0 []) ∧ bw_fr bx_ol w w3 ∧ bx_S (st_act S true (br_ref (st_X S) (st_N S) 1 a0 0 0 [])) w3) → Q (-1) w3 := by
    intro e he v2 w3 hv
    have q3 := hq w3 hv.2.1 hv.2.2
    rw [he] at q3; exact q3
  refine ⟨fun z => ⟨_, hA, fun v2 w3 hv => ?_⟩, fun z => ⟨fun y => ⟨_, hA, fun v2 w3 hv => ?_⟩, fun y => ?_⟩⟩
  · have := bad 0 (by rw [e1, if_pos z]) v2 w3 hv
    exact ⟨fun _ => this, fun _ => this⟩
  · have e0 : bm_ix a0 3 = none := Classical.not_not.mp y
    have := bad 0 (by rw [e1, if_neg z, e0]) v2 w3 hv
    exact ⟨fun _ => this, fun _ => this⟩
  · cases e0 : bm_ix a0 3 with
    | none => exact absurd e0 y
    | some i =>
      obtain ⟨g0, rfl⟩ := bm_ix_some e0
      rw [if_neg z, e0] at e1
      refine ⟨xv_in g0, fun c => ⟨_, hA, fun v2 w3 hv => ?_⟩, fun c => ⟨xv_in g0, _, hA, fun v2 w3 hv => ?_⟩⟩
      · cases eh : bm_hol (st_N S) i with
        | none =>
          have := bad 2 (by rw [e1]; exact if_pos eh) v2 w3 hv
          exact ⟨fun _ => this, fun _ => this⟩
        | some q => exact absurd c (xv_some hN hW hx g0 (n := q.1) (c := q.2) eh)
      · cases eh : bm_hol (st_N S) i with
        | none => exact absurd (xv_none hN g0 eh) c
        | some q =>
          have er : br_ref (st_X S) (st_N S) 1 (nI i) 0 0 [] = .inr (1, i, 0, 0, []) := by
            rw [e1]; exact if_neg (by rw [eh]; simp)
          obtain ⟨rfl, f3, h3⟩ := hv
          have q3 := hq w3 f3 h3
          rw [er] at q3 ⊢
          refine ⟨fun z => absurd z br_tf, fun _ => ?_⟩
          rw [xv_noun hN hW hx g0 (n := q.1) (c := q.2) eh]
          have e2 : br_hand S (.inr (1, i, 0, 0, [])) = nI q.1 := by
            show (match bm_hol (st_N S) i with | none => -1 | some (n, _) => nI n) = _
            rw [eh]
          rw [← e2]; exact q3
theorem bx_sc35 : ∀ c, c ∈ [35] → bx_sc c := fun c q => by rw [List.mem_singleton.mp q]; unfold bx_sc; omega
theorem qx_strict {a0 : Int32} (hw : bm_wfS K S) (hK : K < 2 ^ 30) (h : bx_S S w) (hq : ∀ w', bw_fr bx_ol w w' → bx_S (st_act S true (br_ref (st_X S) (st_N S) 2 a0 0 0 [])) w' → Q (br_hand S (br_ref (st_X S) (st_N S) 2 a0 0 0 [])) w') : bw_ri E (d + 6) mX11_strict [.ref 0, .int a0] w Q := by
  refine wfX11_strict ⟨fun v w3 => v = br_ok (br_ref (st_X S) (st_N S) 2 a0 0 0 []) ∧ bw_fr bx_ol w w3 ∧ bx_S (st_act S true (br_ref (st_X S) (st_N S) 2 a0 0 0 [])) w3, xs_own (f := true) (s := 2) (u := []) hw hK h (by decide) bm_ok_nil (fun z => absurd z (by decide)) (fun w' f g => ⟨rfl, f, g⟩), ?_⟩
  rintro _ w3 ⟨rfl, f3, h3⟩
  cases e : br_ref (st_X S) (st_N S) 2 a0 0 0 [] with
  | inl e0 =>
    have q3 := hq w3 f3 h3
    rw [e] at q3; exact ⟨fun _ => q3, fun z => absurd z br_ft⟩
  | inr p =>
    rw [e] at hq h3
    obtain ⟨er, _⟩ := br_ref_inr e
    obtain ⟨hr, hp1, ha, hbc, _⟩ := br_res_inr (by decide) bm_ok_nil er
    have hWd := bm_wfn_do hw.2.1 hw.2.2.1 hr
    have hX3 : bx_X (st_X S) w3 := h3.2.1
    have hN3 : bx_N (bm_do (st_N S) p) w3 := h3.2.2.2.1
    refine ⟨fun z => absurd z br_tf, fun _ => ⟨Q, xs_tellable (d := d) hX3 hN3 hWd.1 hw.2.1 (fun w' f' => ?_), fun _ _ h => h⟩⟩
    have q3 := hq w' (f3.tr (f'.up (by decide))) (h3.fr (bm_wfS_do hw hr) f' bx_sc35)
    have e2 : br_hand S (.inr p) = nI (bm_many (st_X S) (bm_do (st_N S) p) (bm_nm (st_X S))) := by show br_ans _ _ p = _; unfold br_ans; rw [if_neg (by omega), if_neg (by omega), if_pos hp1]
    rw [← e2]; exact q3
theorem qx_drop {a0 a1 a2 : Int32} (hw : bm_wfS K S) (hK : K < 2 ^ 30) (h : bx_S S w) (hq : ∀ w', bw_fr bx_ol w w' → bx_S (st_act S true (br_ref (st_X S) (st_N S) 4 a0 a1 a2 [])) w' → Q (br_hand S (br_ref (st_X S) (st_N S) 4 a0 a1 a2 [])) w') : bw_ri E (d + 6) mX11_drop [.ref 0, .int a0, .int a1, .int a2] w Q := by
  have h6 := hw.2.1.1
  refine wfX11_drop ⟨fun v w3 => v = br_ok (br_ref (st_X S) (st_N S) 4 a0 a1 a2 []) ∧ bw_fr bx_ol w w3 ∧ bx_S (st_act S true (br_ref (st_X S) (st_N S) 4 a0 a1 a2 [])) w3, xs_own (f := true) (s := 4) (u := []) hw hK h (by decide) bm_ok_nil (fun z => absurd z (by decide)) (fun w' f g => ⟨rfl, f, g⟩), ?_⟩
  rintro _ w3 ⟨rfl, f3, h3⟩
  have q3 := hq w3 f3 h3
  cases e : br_ref (st_X S) (st_N S) 4 a0 a1 a2 [] with
  | inl e0 => rw [e] at q3; exact ⟨fun _ => q3, fun z => absurd z br_ft⟩
  | inr p =>
    rw [e] at q3 h3
    obtain ⟨er, _⟩ := br_ref_inr e
    obtain ⟨hr, hp1, ha, hbc, _⟩ := br_res_inr (by decide) bm_ok_nil er
    have hWd := bm_wfn_do hw.2.1 hw.2.2.1 hr
    have hN3 : bx_N (bm_do (st_N S) p) w3 := h3.2.2.2.1
    have g0 := (hr.2.2.2.2.2.1 (Or.inr hp1)).1
    refine ⟨fun z => absurd z br_tf, fun _ => ?_⟩
    rw [ha]
    refine ⟨Q, xs_ft (d := d + 4) hN3 hWd.1 (by omega) ?_, fun _ _ h => h⟩
    have e2 : br_hand S (.inr p) = nI (bm_wc (bm_frm (bm_do (st_N S) p)) (8 * p.2.1) 8) := by show br_ans _ _ p = _; unfold br_ans; rw [if_neg (by omega), if_neg (by omega), if_neg (by omega)]
    rw [← e2]; exact q3
/-- a form is told: the tape is empty then -/
def st_tell (S : bm_S) (r : Nat ⊕ bm_P) : bm_S := if br_ok r then st_tp (st_act S true r) [] else st_act S true r
abbrev bx_tl : List Nat := [1, 2, 3, 49, 32, 35, 37, 38, 39, 40, 47]
theorem bx_sc3 : ∀ c, c ∈ [3] → bx_sc c := fun c q => by rw [List.mem_singleton.mp q]; unfold bx_sc; omega
theorem qx_tell {a0 a1 a2 : Int32} (hw : bm_wfS K S) (hK : K < 2 ^ 30) (h : bx_S S w) (hq : ∀ w', bw_fr bx_tl w w' → bx_S (st_tell S (br_ref (st_X S) (st_N S) 3 a0 a1 a2 (bp_alone (st_t S)))) w' → Q (br_hand S (br_ref (st_X S) (st_N S) 3 a0 a1 a2 (bp_alone (st_t S)))) w') : bw_ri E (d + 6) mX11_tell [.ref 0, .int a0, .int a1, .int a2] w Q := by
  have h6 := hw.2.1.1
  have hok := bp_alone_ok (st_t S)
  refine wfX11_tell ⟨fun v w3 => v = bx_w (bp_alone (st_t S)) ∧ bw_fr [3] w w3, xs_alone (d := d + 3) hw.1 h.1 (fun w' f => ⟨rfl, f⟩), ?_⟩
  rintro _ w3 ⟨rfl, f3⟩
  have h3 := h.fr hw f3 bx_sc3
  refine ⟨fun v w6 => v = br_ok (br_ref (st_X S) (st_N S) 3 a0 a1 a2 (bp_alone (st_t S))) ∧ bw_fr bx_ol w3 w6 ∧ bx_S (st_act S true (br_ref (st_X S) (st_N S) 3 a0 a1 a2 (bp_alone (st_t S)))) w6, xs_own (f := true) (s := 3) (u := bp_alone (st_t S)) hw hK h3 (by decide) hok (fun _ => rfl) (fun w' f g => ⟨rfl, f, g⟩), ?_⟩
  rintro _ w6 ⟨rfl, f6, hS6⟩
  have f36 : bw_fr bx_tl w w6 := (f3.up (by decide)).tr (f6.up (by decide))
  cases e : br_ref (st_X S) (st_N S) 3 a0 a1 a2 (bp_alone (st_t S)) with
  | inl e0 =>
    rw [e] at hq hS6
    exact ⟨fun z => absurd z br_ft, fun _ => hq w6 f36 hS6⟩
  | inr p =>
    rw [e] at hq hS6
    obtain ⟨er, _⟩ := br_ref_inr e
    obtain ⟨hr, hp1, ha, hbc, _⟩ := br_res_inr (by decide) hok er
    have hWd := bm_wfn_do hw.2.1 hw.2.2.1 hr
    have fT : bw_fr [1, 2] w6 (sw_i w6 1 1 0) := (bw_fr.rf _ _).si (by decide)
    have hT := bx_S_tp (bm_wfS_do hw hr) hS6 fT bx_T_nil
    have hN3 : bx_N (bm_do (st_N S) p) (sw_i w6 1 1 0) := hT.2.2.2.1
    have g0 := (hr.2.2.2.2.2.1 (Or.inl hp1)).1
    refine ⟨fun _ => ?_, fun z => absurd z br_tf⟩
    rw [ha]
    refine ⟨Q, xs_ft (d := d + 4) hN3 hWd.1 (by omega) ?_, fun _ _ h => h⟩
    have e2 : br_hand S (.inr p) = nI (bm_wc (bm_frm (bm_do (st_N S) p)) (8 * p.2.1) 8) := by show br_ans _ _ p = _; unfold br_ans; rw [if_neg (by omega), if_neg (by omega), if_neg (by omega)]
    rw [← e2]
    exact hq _ (f36.tr (fT.up (by decide))) hT
theorem qm_fill {a0 a1 a2 : Int32} (hw : bm_wfS K S) (h : by_S S w) (hq : ∀ w', by_fr by_al by_aff w w' → by_S (st_act S true (br_ref (st_X S) (st_N S) 0 a0 a1 a2 [])) w' → Q (br_hand S (br_ref (st_X S) (st_N S) 0 a0 a1 a2 [])) w') : bw_ri E (d + 11) mX12_fill [.ref 50, .int a0, .int a1, .int a2] w Q :=
  wfX12_fill ⟨Q, ys_hand (d := d) (s := 0) hw h (by decide) bm_ok_nil (fun z => absurd z (by decide)) hq, fun _ _ h => h⟩
theorem qm_empty {a0 : Int32} (hw : bm_wfS K S) (h : by_S S w) (hq : ∀ w', by_fr by_al by_aff w w' → by_S (st_act S true (br_ref (st_X S) (st_N S) 1 a0 0 0 [])) w' → Q (br_hand S (br_ref (st_X S) (st_N S) 1 a0 0 0 [])) w') : bw_ri E (d + 11) mX12_empty [.ref 50, .int a0] w Q :=
  wfX12_empty ⟨Q, ys_hand (d := d) (s := 1) hw h (by decide) bm_ok_nil (fun z => absurd z (by decide)) hq, fun _ _ h => h⟩
theorem qm_strict {a0 : Int32} (hw : bm_wfS K S) (h : by_S S w) (hq : ∀ w', by_fr by_al by_aff w w' → by_S (st_act S true (br_ref (st_X S) (st_N S) 2 a0 0 0 [])) w' → Q (br_hand S (br_ref (st_X S) (st_N S) 2 a0 0 0 [])) w') : bw_ri E (d + 11) mX12_strict [.ref 50, .int a0] w Q :=
  wfX12_strict ⟨Q, ys_hand (d := d) (s := 2) hw h (by decide) bm_ok_nil (fun z => absurd z (by decide)) hq, fun _ _ h => h⟩
theorem qm_drop {a0 a1 a2 : Int32} (hw : bm_wfS K S) (h : by_S S w) (hq : ∀ w', by_fr by_al by_aff w w' → by_S (st_act S true (br_ref (st_X S) (st_N S) 4 a0 a1 a2 [])) w' → Q (br_hand S (br_ref (st_X S) (st_N S) 4 a0 a1 a2 [])) w') : bw_ri E (d + 11) mX12_drop [.ref 50, .int a0, .int a1, .int a2] w Q :=
  wfX12_drop ⟨Q, ys_hand (d := d) (s := 4) hw h (by decide) bm_ok_nil (fun z => absurd z (by decide)) hq, fun _ _ h => h⟩
abbrev by_tlf : List Nat := [2, 10, 3, 4, 5, 6, 7, 8, 9, 11, 37, 38, 39, 40, 42]
abbrev by_tll : List Nat := [51, 63, 64, 71, 72]
theorem by_S_tf {T : bm_S} {w w' : bw_W} (h : by_S T w) (hf : by_fr [] (10 :: by_tf) w w') : by_S T w' := h.fr hf (fun c q => by cases q) (fun c q => by
  have : ∀ c, c ∈ 10 :: by_tf → c ≠ 2 ∧ c ≠ 25 ∧ c ≠ 34 ∧ c ≠ 35 ∧ c ≠ 42 ∧ c ≠ 51 := by decide
  exact this c q)
theorem qm_tell {a0 a1 a2 : Int32} (hw : bm_wfS K S) (h : by_S S w) (hq : ∀ w', by_fr by_tll by_tlf w w' → by_S (st_tell S (br_ref (st_X S) (st_N S) 3 a0 a1 a2 (bp_alone (st_t S)))) w' → Q (br_hand S (br_ref (st_X S) (st_N S) 3 a0 a1 a2 (bp_alone (st_t S)))) w') : bw_ri E (d + 11) mX12_tell [.ref 50, .int a0, .int a1, .int a2] w Q := by
  have h6 := hw.2.1.1
  have hok := bp_alone_ok (st_t S)
  refine wfX12_tell ⟨fun v w3 => v = by_w (bp_alone (st_t S)) ∧ by_fr [] (10 :: by_tf) w w3, ys_alone (d := d + 6) hw.1 h.1 (fun w' f => ⟨rfl, f⟩), ?_⟩
  rintro _ w3 ⟨rfl, f3⟩
  have h3 := by_S_tf h f3
  refine ⟨fun v w6 => v = br_hand S (br_ref (st_X S) (st_N S) 3 a0 a1 a2 (bp_alone (st_t S))) ∧ by_fr by_al by_aff w3 w6 ∧ by_S (st_act S true (br_ref (st_X S) (st_N S) 3 a0 a1 a2 (bp_alone (st_t S)))) w6, ys_hand (d := d) (s := 3) hw h3 (by decide) hok (fun _ => rfl) (fun w' f g => ⟨rfl, f, g⟩), ?_⟩
  rintro _ w6 ⟨rfl, f6, hS6⟩
  have f36 : by_fr by_tll by_tlf w w6 := (f3.up (by decide) (by decide)).tr (f6.up (by decide) (by decide))
  cases e : br_ref (st_X S) (st_N S) 3 a0 a1 a2 (bp_alone (st_t S)) with
  | inl e0 =>
    rw [e] at hq hS6
    refine br_nf rfl ?_
    rw [sw_self rfl]
    exact hq w6 f36 hS6
  | inr p =>
    rw [e] at hq hS6
    obtain ⟨er, _⟩ := br_ref_inr e
    obtain ⟨hr, hp1, ha, hbc, _⟩ := br_res_inr (by decide) hok er
    have hc := fa_cnt_le (fun j => decide (bm_frm (bm_do (st_N S) p) (8 * p.2.1 + j) ≠ [])) 8
    have e2 : br_hand S (.inr p) = nI (bm_wc (bm_frm (bm_do (st_N S) p)) (8 * p.2.1) 8) := by show br_ans _ _ p = _; unfold br_ans; rw [if_neg (by omega), if_neg (by omega), if_neg (by omega)]
    have ne : ¬ br_hand S (.inr p) = -1 := by
      rw [e2]; exact nI_ne_m1 (by unfold bm_wc; omega)
    refine br_nt ne ?_
    have fT : by_fr [51] [2] w6 (sw_i w6 50 2 0) := (by_fr.rf _ _ _).s5 (by decide)
    exact hq _ (f36.tr (fT.up (by decide) (by decide))) (by_S_tp hS6 fT by_T_nil)
end FILL
end PUB
