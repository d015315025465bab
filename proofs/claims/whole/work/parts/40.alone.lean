section ALONE
variable {E : bw_E} {d : Nat} {w : bw_W} {t : List Nat} {q : Nat}
theorem by_C_word (hC : by_C t q w) (ht : bm_wfT t) : ((gw_i w 50 4 = 1) ∧ (¬ (8 < gw_i w 50 9))) ↔ bp_word t q ≠ none := by
  have h480 := ht.1
  obtain ⟨_, hpl, hO, hL, hD, hS⟩ := hC
  have hge := bm_e_ge (P := bm_lt) rfl hpl.1
  have hle := bm_e_le (P := bm_lt) rfl hpl.1
  unfold bp_word
  cases e : bm_lt (bm_b t q) with
  | true =>
    obtain ⟨h4, h9, _⟩ := hL e
    have hlt := bm_e_in (P := bm_lt) rfl e
    have h1 : q + 1 ≤ bm_e bm_lt t q := by rw [bm_e_t rfl e]; exact bm_e_ge rfl (by omega)
    rw [h4, h9, nl_8, nI_ltI (by decide) (by omega)]
    by_cases c : bm_e bm_lt t q ≤ q + 8
    · rw [if_pos ⟨by omega, c⟩]; simp; omega
    · rw [if_neg (by omega)]; simp; omega
  | false =>
    have e2 : bm_e bm_lt t q = q := bm_e_f e
    rw [if_neg (by omega)]
    have h4 : gw_i w 50 4 ≠ 1 := by
      by_cases c : t.length ≤ q
      · rw [(hO c).1]; decide
      · cases e3 : bm_dg (bm_b t q) with
        | true => rw [(hD e3).1]; decide
        | false => rw [(hS (by omega) e e3).1]; decide
    simp [h4]
theorem by_C_ws (hC : by_C t q w) {u : List Nat} {q' : Nat} (h : bp_word t q = some (u, q')) : gw_l w 50 11 = by_w u ∧ gw_i w 50 3 = nI (q + u.length) := by
  obtain ⟨_, hpl, hO, hL, hD, hS⟩ := hC
  have hs := bp_word_some hpl.1 h
  have hne : bm_lt (bm_b t q) = true := by
    cases e : bm_lt (bm_b t q) with
    | true => rfl
    | false =>
      have e2 : bm_e bm_lt t q = q := bm_e_f e
      have : u.length = 0 := by omega
      exact absurd (List.length_eq_zero_iff.mp this) hs.2.1
  obtain ⟨h4, h9, h3, h11⟩ := hL hne
  have h8 := hs.1.1
  have h11' := h11 (by omega)
  rw [hs.2.2.2.1, show q + u.length - q = u.length by omega, ← hs.2.2.1] at h11'
  rw [hs.2.2.2.1] at h3
  exact ⟨h11', h3⟩
theorem ys_any {Q : Int64 → bw_W → Prop} (ht : bm_wfT t) (hT : by_T t w) (hC : by_C t q w) (hw : gw_i w 50 10 = -1) (hf : bp_word t q = none → ∀ w', by_fr [] (10 :: by_tf) w w' → gw_i w' 50 10 = nI q → Q 0 w') (hq : ∀ u q', bp_word t q = some (u, q') → ∀ w', by_fr [] by_tf w w' → by_C t q' w' → Q (by_w u) w') : bw_rl E (d + 3) mX12_anyWord [.ref 50] w Q := by
  refine wfX12_anyWord (br_nf hw ?_)
  rw [by_C_word hC ht]
  cases e : bp_word t q with
  | none =>
    refine br_f (fun z => z rfl) (hf e _ ((by_fr.rf _ _ _).s5 (by decide)) ?_)
    rw [gs_ii, if_pos ⟨rfl, rfl⟩, if_neg (fun z => z hw)]
    exact hC.1
  | some p =>
    obtain ⟨u, q'⟩ := p
    have hs := bp_word_some hC.2.1.1 e
    obtain ⟨g11, g3⟩ := by_C_ws hC e
    refine br_t (by simp) ⟨fun w3 => by_fr [] by_tf w w3 ∧ by_C t q' w3, ys_next (d := d) ht hT g3 hs.2.2.2.2.2.1 (fun w' f h => ⟨f, by rw [hs.2.2.2.2.1]; exact h⟩), ?_⟩
    rintro w3 ⟨f, h⟩
    rw [g11]
    exact hq u q' e w3 f h
theorem ys_any0 {Q : Int64 → bw_W → Prop} (hw : gw_i w 50 10 ≠ -1) (hq : Q 0 w) : bw_rl E (d + 3) mX12_anyWord [.ref 50] w Q := by
  refine wfX12_anyWord (br_nt hw ?_)
  rw [if_pos hw, sw_self rfl]
  exact hq
theorem bp_num_dg {m hi v q' : Nat} (hq : q ≤ t.length) (h : bp_num t q m hi = some (v, q')) : bm_dg (bm_b t q) = true ∧ v = bm_dv t q (bm_e bm_dg t q - q) ∧ q' = bm_sk t (bm_e bm_dg t q) ∧ bm_e bm_dg t q ≤ q + m := by
  unfold bp_num at h
  split at h
  · rename_i c
    cases h
    refine ⟨?_, rfl, rfl, c.2.1⟩
    cases e : bm_dg (bm_b t q) with
    | true => rfl
    | false =>
      have e2 : bm_e bm_dg t q = q := bm_e_f e
      omega
  · cases h
theorem by_C_num (hC : by_C t q w) (ht : bm_wfT t) {m hi : Nat} (hm : m ≤ 2) (hhi : hi < 1000) : ((gw_i w 50 4 = 2) ∧ (¬ (nI m < gw_i w 50 7)) ∧ (gw_i w 50 6 ≤ nI hi)) ↔ bp_num t q m hi ≠ none := by
  have h480 := ht.1
  obtain ⟨_, hpl, hO, hL, hD, hS⟩ := hC
  have hge := bm_e_ge (P := bm_dg) rfl hpl.1
  have hle := bm_e_le (P := bm_dg) rfl hpl.1
  unfold bp_num
  cases e : bm_dg (bm_b t q) with
  | true =>
    obtain ⟨h4, h9, h3, h6⟩ := hD e
    have hlt := bm_e_in (P := bm_dg) rfl e
    have h1 : q + 1 ≤ bm_e bm_dg t q := by rw [bm_e_t rfl e]; exact bm_e_ge rfl (by omega)
    rw [h4, h9, nI_ltI (by omega) (by omega)]
    by_cases c : bm_e bm_dg t q ≤ q + m
    · have hdv := bm_dv_lt hpl.1 (bm_e bm_dg t q - q) (Nat.le_refl _)
      have h100 : 10 ^ (bm_e bm_dg t q - q) ≤ 10 ^ 2 := Nat.pow_le_pow_right (by decide) (by omega)
      rw [h6 (by omega), nI_leI (by omega) (by omega)]
      by_cases c2 : bm_dv t q (bm_e bm_dg t q - q) ≤ hi
      · rw [if_pos ⟨by omega, c, c2⟩]; simp; omega
      · rw [if_neg (by omega)]; simp; omega
    · rw [if_neg (by omega)]
      refine ⟨fun z => ?_, fun z => absurd rfl z⟩
      omega
  | false =>
    have e2 : bm_e bm_dg t q = q := bm_e_f e
    rw [if_neg (by omega)]
    have h4 : gw_i w 50 4 ≠ 2 := by
      by_cases c : t.length ≤ q
      · rw [(hO c).1]; decide
      · cases e3 : bm_lt (bm_b t q) with
        | true => rw [(hL e3).1]; decide
        | false => rw [(hS (by omega) e3 e).1]; decide
    simp [h4]
theorem ys_num {Q : Int32 → bw_W → Prop} {m hi : Nat} (hm : m ≤ 2) (hhi : hi < 1000) (ht : bm_wfT t) (hT : by_T t w) (hC : by_C t q w) (hw : gw_i w 50 10 = -1) (hf : bp_num t q m hi = none → ∀ w', by_fr [] (10 :: by_tf) w w' → gw_i w' 50 10 = nI q → Q 0 w') (hq : ∀ v q', bp_num t q m hi = some (v, q') → ∀ w', by_fr [] by_tf w w' → by_C t q' w' → Q (nI v) w') : bw_ri E (d + 3) mX12_numberOf [.ref 50, .int (nI m), .int (nI hi)] w Q := by
  have hcn := by_C_num hC ht hm hhi
  refine wfX12_numberOf (br_nf hw ?_)
  have bad : bp_num t q m hi = none → Q 0 (sw_i w 50 10 (if ¬ (gw_i w 50 10) = (-1) then (gw_i w 50 10) else (gw_i w 50 5))) := by
    intro e
    refine hf e _ ((by_fr.rf _ _ _).s5 (by decide)) ?_
    rw [gs_ii, if_pos ⟨rfl, rfl⟩, if_neg (fun z => z hw)]
    exact hC.1
  have none_of : (bp_num t q m hi ≠ none → False) → bp_num t q m hi = none := fun h => Classical.not_not.mp h
  refine ⟨fun z => bad (none_of fun h => z (hcn.mpr h).1), fun z => ⟨fun y => bad (none_of fun h => (hcn.mpr h).2.1 y), fun y => ⟨fun x => ?_, fun x => bad (none_of fun h => x (hcn.mpr h).2.2)⟩⟩⟩
  have hne := hcn.mp ⟨z, y, x⟩
  cases e : bp_num t q m hi with
  | none => exact absurd e hne
  | some p =>
    obtain ⟨v, q'⟩ := p
    have hs := bp_num_dg hC.2.1.1 e
    obtain ⟨h4, h7, h3, h6⟩ := hC.2.2.2.2.1 hs.1
    have h6' := h6 (by omega)
    rw [← hs.2.1] at h6'
    refine ⟨fun w3 => by_fr [] by_tf w w3 ∧ by_C t q' w3, ys_next (d := d) ht hT h3 (bm_e_le rfl hC.2.1.1) (fun w' f h => ⟨f, by rw [hs.2.2.1]; exact h⟩), ?_⟩
    rintro w3 ⟨f, h⟩
    rw [h6']
    exact hq v q' e w3 f h
theorem ys_num0 {Q : Int32 → bw_W → Prop} {a b : Int32} (hw : gw_i w 50 10 ≠ -1) (hq : Q 0 w) : bw_ri E (d + 3) mX12_numberOf [.ref 50, .int a, .int b] w Q := by
  refine wfX12_numberOf (br_nt hw ?_)
  rw [if_pos hw, sw_self rfl]
  exact hq
theorem ys_dig {Q : Int32 → bw_W → Prop} {hi : Nat} (hhi : hi < 1000) (ht : bm_wfT t) (hT : by_T t w) (hC : by_C t q w) (hw : gw_i w 50 10 = -1) (hf : bp_num t q 1 hi = none → ∀ w', by_fr [] (10 :: by_tf) w w' → gw_i w' 50 10 = nI q → Q 0 w') (hq : ∀ v q', bp_num t q 1 hi = some (v, q') → ∀ w', by_fr [] by_tf w w' → by_C t q' w' → Q (nI v) w') : bw_ri E (d + 4) mX12_digit [.ref 50, .int (nI hi)] w Q :=
  wfX12_digit ⟨Q, ys_num (d := d) (m := 1) (by decide) hhi ht hT hC hw hf hq, fun _ _ h => h⟩
theorem ys_dig0 {Q : Int32 → bw_W → Prop} {b : Int32} (hw : gw_i w 50 10 ≠ -1) (hq : Q 0 w) : bw_ri E (d + 4) mX12_digit [.ref 50, .int b] w Q :=
  wfX12_digit ⟨Q, ys_num0 (d := d) hw hq, fun _ _ h => h⟩
theorem by_C_over (hC : by_C t q w) : gw_i w 50 4 = 0 ↔ t.length ≤ q := by
  obtain ⟨_, hpl, hO, hL, hD, hS⟩ := hC
  by_cases c : t.length ≤ q
  · rw [(hO c).1]; simp [c]
  · have h4 : gw_i w 50 4 ≠ 0 := by
      cases e3 : bm_lt (bm_b t q) with
      | true => rw [(hL e3).1]; decide
      | false =>
        cases e4 : bm_dg (bm_b t q) with
        | true => rw [(hD e4).1]; decide
        | false => rw [(hS (by omega) e3 e4).1]; decide
    exact ⟨fun z => absurd z h4, fun z => absurd z c⟩
theorem ys_ends {Q : Int32 → bw_W → Prop} (hC : by_C t q w) (hw : gw_i w 50 10 = -1) (hq : ∀ w', by_fr [] [10] w w' → (t.length ≤ q → gw_i w' 50 10 = -1 ∧ w' = w) → Q (if t.length ≤ q then -1 else nI q) w') : bw_ri E (d + 2) mX12_ends [.ref 50] w Q := by
  refine wfX12_ends (br_nf hw ?_)
  rw [by_C_over hC, hw]
  refine ⟨fun z => ?_, fun z => ?_⟩
  · have := hq w (by_fr.rf _ _ _) (fun _ => ⟨hw, rfl⟩)
    rw [if_pos z] at this; exact this
  · have := hq (sw_i w 50 10 (nI q)) ((by_fr.rf _ _ _).s5 (by decide)) (fun y => absurd y z)
    rw [if_neg z] at this
    rw [if_neg (fun y => y rfl), hC.1]; exact this
theorem ys_ends0 {Q : Int32 → bw_W → Prop} (hw : gw_i w 50 10 ≠ -1) (hq : Q (gw_i w 50 10) w) : bw_ri E (d + 2) mX12_ends [.ref 50] w Q := wfX12_ends (br_nt hw hq)
/-- the tape as one word; none: it isn't -/
def bp_alone (t : List Nat) : List Nat := match bp_word t (bm_sk t 0) with
  | none => []
  | some (u, q') => if t.length ≤ q' then u else []
theorem bp_alone_ok (t : List Nat) : bm_ok (bp_alone t) := by
  unfold bp_alone
  cases e : bp_word t (bm_sk t 0) with
  | none => exact bm_ok_nil
  | some p =>
    obtain ⟨u, q'⟩ := p
    show bm_ok (if t.length ≤ q' then u else [])
    split
    · exact (bp_word_some (bm_e_le rfl (Nat.zero_le _)) e).1
    · exact bm_ok_nil
theorem ys_alone {Q : Int64 → bw_W → Prop} (ht : bm_wfT t) (hT : by_T t w) (hq : ∀ w', by_fr [] (10 :: by_tf) w w' → Q (by_w (bp_alone t)) w') : bw_rl E (d + 4) mX12_tapeWord [.ref 50] w Q := by
  have f0 : by_fr [] (10 :: by_tf) w (sw_i (sw_i w 50 3 0) 50 10 (-1)) := ((by_fr.rf _ _ _).s5 (by decide)).s5 (by decide)
  have hT0 := hT.fr f0 (by decide) (by decide)
  refine wfX12_tapeWord ⟨fun w3 => by_fr [] by_tf (sw_i (sw_i w 50 3 0) 50 10 (-1)) w3 ∧ by_C t (bm_sk t 0) w3, ys_next (d := d + 1) ht hT0 (p := 0) (by rw [gs_ii, if_neg (by decide), gs_ii, if_pos ⟨rfl, rfl⟩]; rfl) (Nat.zero_le _) (fun w' f h => ⟨f, h⟩), ?_⟩
  rintro w3 ⟨f3, hC3⟩
  have f03 : by_fr [] (10 :: by_tf) w w3 := f0.tr (f3.up (by decide) (by decide))
  have hT3 := hT0.fr f3 (by decide) (by decide)
  have g10 : gw_i w3 50 10 = -1 := by rw [f3.i5 (by decide), gs_ii, if_pos ⟨rfl, rfl⟩]
  unfold bp_alone at hq
  refine ⟨fun v w6 => (bp_word t (bm_sk t 0) = none ∧ v = 0 ∧ by_fr [] (10 :: by_tf) w w6 ∧ gw_i w6 50 10 = nI (bm_sk t 0)) ∨ (∃ u q', bp_word t (bm_sk t 0) = some (u, q') ∧ v = by_w u ∧ by_fr [] (10 :: by_tf) w w6 ∧ by_C t q' w6 ∧ gw_i w6 50 10 = -1), ys_any (d := d) ht hT3 hC3 g10 (fun e w6 f6 h6 => Or.inl ⟨e, rfl, f03.tr f6, h6⟩) (fun u q' e w6 f6 h6 => Or.inr ⟨u, q', e, rfl, f03.tr (f6.up (by decide) (by decide)), h6, by rw [f6.i5 (by decide)]; exact g10⟩), ?_⟩
  rintro v5 w6 (⟨e, rfl, f6, h6⟩ | ⟨u, q', e, rfl, f6, h6, h10⟩)
  · rw [e] at hq
    have hle : bm_sk t 0 ≤ t.length := bm_e_le rfl (Nat.zero_le _)
    have h480 := ht.1
    have hn : gw_i w6 50 10 ≠ -1 := by rw [h6]; exact nI_ne_m1 (by omega)
    refine ⟨fun v w9 => v = gw_i w6 50 10 ∧ w6 = w9, ys_ends0 (d := d + 1) hn ⟨rfl, rfl⟩, ?_⟩
    rintro _ _ ⟨rfl, rfl⟩
    exact br_nt hn (hq w6 f6)
  · rw [e] at hq
    have hq' : ∀ w', by_fr [] (10 :: by_tf) w w' → Q (by_w (if t.length ≤ q' then u else [])) w' := hq
    have hs := bp_word_some (bm_e_le rfl (Nat.zero_le _)) e
    have h480 := ht.1
    refine ⟨fun v w9 => v = (if t.length ≤ q' then -1 else nI q') ∧ by_fr [] [10] w6 w9, ys_ends (d := d + 1) h6 h10 (fun w9 f9 _ => ⟨rfl, f9⟩), ?_⟩
    rintro _ w9 ⟨rfl, f9⟩
    have f69 : by_fr [] (10 :: by_tf) w w9 := f6.tr (f9.up (by decide) (by decide))
    by_cases c : t.length ≤ q'
    · rw [if_pos c] at hq' ⊢
      exact br_nf rfl (hq' w9 f69)
    · rw [if_neg c] at hq' ⊢
      exact br_nt (nI_ne_m1 (by omega)) (hq' w9 f69)
theorem xs_alone {Q : Int64 → bw_W → Prop} (ht : bm_wfT t) (hT : bx_T t w) (hq : ∀ w', bw_fr [3] w w' → Q (bx_w (bp_alone t)) w') : bw_rl E (d + 2) mX0_wordAlone [.ref 3] w Q := by
  have f0 : bw_fr [3] w (sw_i w 3 1 0) := (bw_fr.rf _ _).si (by decide)
  have hT0 := hT.fr f0 (by decide) (by decide)
  have hC0 : bx_C t (bm_sk t 0) (sw_i w 3 1 0) := ⟨0, by rw [gs_ii, if_pos ⟨rfl, rfl⟩]; rfl, Nat.zero_le _, rfl⟩
  unfold bp_alone at hq
  refine wfX0_wordAlone ⟨fun v w3 => (bp_word t (bm_sk t 0) = none ∧ v = false ∧ bw_fr [3] w w3) ∨ (∃ u q', bp_word t (bm_sk t 0) = some (u, q') ∧ v = true ∧ bw_fr [3] w w3 ∧ gw_l w3 3 5 = bx_w u ∧ bx_C t q' w3), xs_word (d := d) ht hT0 hC0 (fun e w' f _ _ => Or.inl ⟨e, rfl, f0.tr f⟩) (fun u q' e w' f _ _ h5 hC => Or.inr ⟨u, q', e, rfl, f0.tr f, h5, hC⟩), ?_⟩
  rintro v2 w3 (⟨e, rfl, f3⟩ | ⟨u, q', e, rfl, f3, h5, hC⟩)
  · rw [e] at hq
    exact ⟨fun _ => hq w3 f3, fun z => by cases z⟩
  · rw [e] at hq
    have hq' : ∀ w', bw_fr [3] w w' → Q (bx_w (if t.length ≤ q' then u else [])) w' := hq
    refine ⟨fun z => (by cases z), fun _ => ⟨fun v w6 => v = decide (t.length ≤ q') ∧ w6 = sw_i w3 3 1 (nI q'), xs_atEnd (d := d) ht (hT.fr f3 (by decide) (by decide)) hC ⟨rfl, rfl⟩, ?_⟩⟩
    rintro _ _ ⟨rfl, rfl⟩
    have f6 : bw_fr [3] w (sw_i w3 3 1 (nI q')) := f3.si (by decide)
    have hr := hq' _ f6
    by_cases c : t.length ≤ q'
    · rw [if_pos c] at hr
      rw [decide_eq_true c, gs_li, h5]
      exact ⟨fun z => (by cases z), fun _ => hr⟩
    · rw [if_neg c] at hr
      rw [decide_eq_false c]
      exact ⟨fun _ => hr, fun z => (by cases z)⟩
end ALONE
