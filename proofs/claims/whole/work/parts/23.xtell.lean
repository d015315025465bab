section XTELL
variable {E : bw_E} {d : Nat} {w : bw_W} {X : bm_X} {N : bm_N}
theorem xv_cell (hN : bx_N N w) {h : Nat} (hh : h < 3) : gw_l w 32 ((48 + nI h).toNatClampNeg) = lN (bm_hv (bm_hol N h)) := by
  rw [nl_48, nI_add, nI_clamp (by omega)]
  exact hN.2.1 h hh
theorem xv_in {h : Nat} (hh : h < 3) : vp_in (48 + nI h) 52 := by
  rw [nl_48, nI_add]
  exact bm_in (by omega) (by decide)
theorem xv_none (hN : bx_N N w) {h : Nat} (hh : h < 3) (e : bm_hol N h = none) : gw_l w 32 ((48 + nI h).toNatClampNeg) = 0 := by
  rw [xv_cell hN hh, e]; rfl
theorem xv_some (hN : bx_N N w) (hW : bm_wfN X N) (hX : bm_wfX X) {h n c : Nat} (hh : h < 3) (e : bm_hol N h = some (n, c)) : ¬ gw_l w 32 ((48 + nI h).toNatClampNeg) = 0 := by
  have h1 := hW.2 h n c hh e
  have h2 := hX.1
  rw [xv_cell hN hh, e, bm_l0 (by simp only [bm_hv]; omega)]
  simp only [bm_hv]; omega
theorem xv_sub (hN : bx_N N w) {h n c : Nat} (hh : h < 3) (e : bm_hol N h = some (n, c)) : gw_l w 32 ((48 + nI h).toNatClampNeg) - 1 = lN (100 * n + c) := by
  rw [xv_cell hN hh, e, show (1 : Int64) = lN 1 from rfl, lN_sub (by simp only [bm_hv]; omega)]
  simp only [bm_hv]
  congr 1
  omega
theorem xv_noun (hN : bx_N N w) (hW : bm_wfN X N) (hX : bm_wfX X) {h n c : Nat} (hh : h < 3) (e : bm_hol N h = some (n, c)) : vX7_nounIn w (nI h) = nI n := by
  have h1 := hW.2 h n c hh e
  have h2 := hX.1
  unfold vX7_nounIn
  rw [xv_sub hN hh e, lN_i, nl_100, pk_div (by omega) (by decide) (by decide)]
  congr 1
  omega
theorem xv_count (hN : bx_N N w) (hW : bm_wfN X N) (hX : bm_wfX X) {h n c : Nat} (hh : h < 3) (e : bm_hol N h = some (n, c)) : vX7_countIn w (nI h) = nI c := by
  have h1 := hW.2 h n c hh e
  have h2 := hX.1
  unfold vX7_countIn
  rw [xv_sub hN hh e, lN_i, nl_100, pk_rem (by omega) (by decide) (by decide)]
  congr 1
  omega
theorem xv_num (hN : bx_N N w) (hW : bm_wfN X N) (hX : bm_wfX X) {h n c : Nat} (hh : h < 3) (e : bm_hol N h = some (n, c)) : vX7_numberIn w (nI h) = nI (bm_num c) := by
  have h1 := hW.2 h n c hh e
  have h2 := hX.1
  unfold vX7_numberIn
  rw [xv_sub hN hh e, show (100 : Int64) = lN 100 from rfl, bm_lrem (by omega) (by decide) (by decide), show (1 : Int64) = lN 1 from rfl]
  have e2 : (100 * n + c) % 100 = c := by omega
  rw [e2]
  have e3 : lN c = lN 1 ↔ c = 1 := bm_leq (by omega) (by decide)
  unfold bm_num
  by_cases hc : c = 1
  · rw [if_neg (fun q => q (e3.mpr hc)), if_pos hc]; rfl
  · rw [if_pos (fun q => hc (e3.mp q)), if_neg hc]; rfl
theorem xs_def {Q : Int32 → bw_W → Prop} (hN : bx_N N w) (hW : bm_wfN X N) {n k u : Nat} (hn : n < 6) (hk : k < 4) (hu : u < 2) (hq : Q (nI (bm_def N n k u)) w) : bw_ri E (d + 0) mX7_defaultOf [.ref 31, .int (nI n), .int (nI k), .int (nI u)] w Q := by
  have f : ∀ j, j < 48 → (gw_l w 32 j = 0 ↔ bm_frm N j = []) := fun j hj => by rw [hN.1 j hj, bx_w0 (hW.1 j hj)]
  refine wfX7_defaultOf ?_
  rw [nl_8, nl_2, pk_mul, pk_mul, nI_add, nI_add, nI_add, nI_clamp (by omega), nI_clamp (by omega), nI_clamp (by omega), nI_clamp (by omega)]
  rw [f _ (by omega), f _ (by omega), f _ (by omega), f _ (by omega)]
  rw [show n * 8 + k * 2 + u = 8 * n + 2 * k + u by omega, show n * 8 + u = 8 * n + u by omega, show n * 8 + k * 2 = 8 * n + 2 * k by omega, show n * 8 = 8 * n by omega]
  unfold bm_def at hq
  refine ⟨bm_in (by omega) (by decide), fun c1 => ⟨bm_in (by omega) (by decide), fun c2 => ⟨bm_in (by omega) (by decide), fun c3 => ⟨bm_in (by omega) (by decide), fun c4 => ?_, fun c4 => ?_⟩, fun c3 => ?_⟩, fun c2 => ?_⟩, fun c1 => ?_⟩
  · rw [if_neg (fun q => q c1), if_neg (fun q => q c2), if_neg (fun q => q c3), if_neg (fun q => q c4)] at hq; exact hq
  · rw [if_neg (fun q => q c1), if_neg (fun q => q c2), if_neg (fun q => q c3), if_pos c4] at hq; exact hq
  · rw [if_neg (fun q => q c1), if_neg (fun q => q c2), if_pos c3] at hq; exact hq
  · rw [if_neg (fun q => q c1), if_pos c2] at hq; exact hq
  · rw [if_pos c1] at hq; exact hq
theorem bm_def_le (N : bm_N) (n k u : Nat) : bm_def N n k u ≤ 4 := by unfold bm_def; repeat' (first | omega | split)
theorem xs_form {Q : Int64 → bw_W → Prop} (hX : bx_X X w) (hN : bx_N N w) (hW : bm_wfN X N) (hx : bm_wfX X) {n k u : Nat} (hn : n < bm_nn X) (hk : k < 4) (hu : u < 2) (hq : Q (bx_w (bm_form X N n k u)) w) : bw_rl E (d + 1) mX10_formOf [.ref 35, .int (nI n), .int (nI k), .int (nI u)] w Q := by
  have h6 := hx.1
  have hD := bm_def_le N n k u
  refine wfX10_formOf ⟨fun v w3 => nI (bm_def N n k u) = v ∧ w = w3, xs_def hN hW (by omega) hk hu ⟨rfl, rfl⟩, ?_⟩
  rintro _ _ ⟨rfl, rfl⟩
  rw [nl_8, nl_2, nl_0, pk_mul, pk_mul, pk_mul, nI_add, nI_add, nI_add, nI_add, nI_add, nI_add, nI_clamp (by omega), nI_clamp (by omega), nI_clamp (by omega), nI_clamp (by omega), nI_clamp (by omega)]
  unfold bm_form at hq
  refine ⟨fun c => ⟨bm_in (by omega) (by decide), ?_⟩, fun c => ⟨bm_in (by omega) (by decide), ?_⟩, fun c => ⟨bm_in (by omega) (by decide), ?_⟩, fun c => ⟨bm_in (by omega) (by decide), ?_⟩, fun c => ⟨bm_in (by omega) (by decide), ?_⟩⟩
  · rw [(nI_eq (b := 0) (by omega) (by decide)).mp c] at hq
    rw [show n * 8 + k * 2 + u = 8 * n + 2 * k + u by omega, hN.1 _ (by omega)]; exact hq
  · rw [(nI_eq (b := 1) (by omega) (by decide)).mp c] at hq
    rw [show n * 8 + 0 * 2 + u = 8 * n + u by omega, hN.1 _ (by omega)]; exact hq
  · rw [(nI_eq (b := 2) (by omega) (by decide)).mp c] at hq
    rw [show n * 8 + k * 2 + 0 = 8 * n + 2 * k by omega, hN.1 _ (by omega)]; exact hq
  · rw [(nI_eq (b := 3) (by omega) (by decide)).mp c] at hq
    rw [show n * 8 + 0 * 2 + 0 = 8 * n by omega, hN.1 _ (by omega)]; exact hq
  · rw [nI_toInt (by omega)] at c
    have e4 : bm_def N n k u = 4 := by omega
    rw [e4] at hq
    rw [(hX.2.2.1 n hn).1]; exact hq
theorem xs_agree5 {Q : Bool → bw_W → Prop} (hX : bx_X X w) (hN : bx_N N w) (hW : bm_wfN X N) (hx : bm_wfX X) {h b n c : Nat} (hh : h < 3) (hb : b < 3) (e : bm_hol N h = some (n, c)) (hq : match bm_hol N b with
    | none => Q false (sw_i (sw_i w 35 5 (nI b)) 35 6 (nI 0))
    | some (_, c2) => if bm_num c = bm_num c2 then Q true w else Q false (sw_i (sw_i w 35 5 (nI b)) 35 6 (nI 2))) : bw_rb E (d + 1) mX10_agree [.ref 35, .int (nI 61), .int (nI h), .int (nI b)] w Q := by
  refine wfX10_agree ⟨xv_in hb, fun c1 => ⟨fun c2 => absurd rfl c2, fun _ => ⟨xv_in hh, xv_in hb, fun c3 => ?_, fun c3 => ⟨fun _ => ?_, fun q => q.elim⟩⟩⟩, fun c1 => ?_⟩
  · cases e2 : bm_hol N b with
    | none => exact absurd (xv_none hN hb e2) c1
    | some p =>
      obtain ⟨n2, c2⟩ := p
      rw [e2] at hq
      rw [xv_num hN hW hx hh e, xv_num hN hW hx hb e2] at c3
      have := (nI_eq (by have := bm_num_lt c; omega) (by have := bm_num_lt c2; omega)).mp c3
      simp only [this, if_true] at hq
      exact hq
  · cases e2 : bm_hol N b with
    | none => exact absurd (xv_none hN hb e2) c1
    | some p =>
      obtain ⟨n2, c2⟩ := p
      rw [e2] at hq
      rw [xv_num hN hW hx hh e, xv_num hN hW hx hb e2] at c3
      have : ¬ bm_num c = bm_num c2 := fun q => c3 (by rw [q])
      simp only [this, if_false] at hq
      exact hq
  · cases e2 : bm_hol N b with
    | none => rw [e2] at hq; exact hq
    | some p => exact absurd c1 (xv_some hN hW hx hb e2)
theorem xs_agree6 {Q : Bool → bw_W → Prop} (hX : bx_X X w) (hN : bx_N N w) (hW : bm_wfN X N) (hx : bm_wfX X) {h b n c : Nat} (hh : h < 3) (hb : b < 3) (e : bm_hol N h = some (n, c)) (hq : match bm_hol N b with
    | none => Q false (sw_i (sw_i w 35 5 (nI b)) 35 6 (nI 0))
    | some (n2, _) => if bm_knd X n = bm_knd X n2 then Q true w else Q false (sw_i (sw_i w 35 5 (nI b)) 35 6 (nI 3))) : bw_rb E (d + 1) mX10_agree [.ref 35, .int (nI 33), .int (nI h), .int (nI b)] w Q := by
  have g1 := (hW.2 h n c hh e).1
  have g2 := hx.1
  refine wfX10_agree ⟨xv_in hb, fun c1 => ⟨fun _ => ?_, fun q => absurd q (by decide)⟩, fun c1 => ?_⟩
  · cases e2 : bm_hol N b with
    | none => exact absurd (xv_none hN hb e2) c1
    | some p =>
      obtain ⟨n2, c2⟩ := p
      rw [e2] at hq
      have g3 := (hW.2 b n2 c2 hb e2).1
      rw [xv_noun hN hW hx hh e, xv_noun hN hW hx hb e2, nI_clamp (by omega), nI_clamp (by omega), (hX.2.2.1 n g1).2, (hX.2.2.1 n2 g3).2]
      have k1 := (hx.2.2.1 n g1).2.2
      have k2 := (hx.2.2.1 n2 g3).2.2
      refine ⟨xv_in hh, bm_in (by omega) (by decide), xv_in hb, bm_in (by omega) (by decide), fun c3 => ?_, fun c3 => ⟨fun _ => ?_, fun q => q.elim⟩⟩
      · have := (nI_eq (by omega) (by omega)).mp c3
        simp only [this, if_true] at hq
        exact hq
      · have : ¬ bm_knd X n = bm_knd X n2 := fun q => c3 (by rw [q])
        simp only [this, if_false] at hq
        exact hq
  · cases e2 : bm_hol N b with
    | none => rw [e2] at hq; exact hq
    | some p => exact absurd c1 (xv_some hN hW hx hb e2)
theorem br_nt {c A B : Prop} (h : ¬ c) (a : A) : (¬ c → A) ∧ (c → B) := ⟨fun _ => a, fun q => absurd q h⟩
theorem br_nf {c A B : Prop} (h : c) (b : B) : (¬ c → A) ∧ (c → B) := ⟨fun q => absurd h q, fun _ => b⟩
theorem br_nn {A B : Prop} (a : A) : (¬ False → A) ∧ (False → B) := ⟨fun _ => a, fun q => q.elim⟩
theorem xs_all {Q : Bool → bw_W → Prop} (hX : bx_X X w) (hN : bx_N N w) (hW : bm_wfN X N) (hx : bm_wfX X) {k s h b n c : Nat} (hk : k < 32) (h26 : gw_i w 26 k = nI (bm_sg s)) (h27 : gw_i w 27 k = nI h) (h28 : gw_i w 28 k = nI b) (hs : s = 1 ∨ s = 2 ∨ s = 3) (hh : h < 3) (hb : b < 4) (e : bm_hol N h = some (n, c))
    (hq : if s ≠ 1 ∧ bm_wds X (24 * (if s = 3 then 1 else 0) + (2 * b + bm_num c) * 3 + bm_knd X n) = [] then Q false (sw_i (sw_i w 35 5 (nI h)) 35 6 (nI 4)) else if s ≠ 3 ∧ bm_def N n b (bm_num c) ≠ 0 then Q false (sw_i (sw_i w 35 5 (nI h)) 35 6 (nI 1)) else Q true w) : bw_rb E (d + 1) mX10_isAllTold [.ref 35, .int (nI k)] w Q := by
  have g1 := (hW.2 h n c hh e).1
  have g2 := hx.1
  have g3 := (hx.2.2.1 n g1).2.2
  have g4 := bm_num_lt c
  have hD := bm_def_le N n b (bm_num c)
  have hkin : vp_in (nI k) 32 := bm_in hk (by decide)
  have iw : (nI b * 2 + nI (bm_num c)) * 3 + nI (bm_knd X n) = nI ((2 * b + bm_num c) * 3 + bm_knd X n) := by
    rw [nl_2, nl_3, pk_mul, nI_add, pk_mul, nI_add]
    congr 1
    omega
  have hsl : (2 * b + bm_num c) * 3 + bm_knd X n < 24 := by omega
  have w22 := (hX.2.2.2.1 _ hsl).1
  have w23 := (hX.2.2.2.1 _ hsl).2
  have o22 := hx.2.2.2.1 ((2 * b + bm_num c) * 3 + bm_knd X n) (by omega)
  have o23 := hx.2.2.2.1 (24 + ((2 * b + bm_num c) * 3 + bm_knd X n)) (by omega)
  have hdef : ∀ {Q' : Bool → bw_W → Prop}, (bm_def N n b (bm_num c) = 0 → Q' true w) → (¬ bm_def N n b (bm_num c) = 0 → Q' false (sw_i (sw_i w 35 5 (nI h)) 35 6 1)) → (∃ Q8 : Int32 → bw_W → Prop, bw_ri E (d + 0) mX7_defaultOf [.ref 31, .int (nI n), .int (nI b), .int (nI (bm_num c))] w Q8 ∧ ∀ v9 w10, Q8 v9 w10 → ((v9 = 0 → Q' true w10) ∧ (¬ (v9 = 0) → ((¬ False → Q' false (sw_i (sw_i w10 35 5 (nI h)) 35 6 1)) ∧ (False → Q' true (sw_i (sw_i w10 35 5 (nI h)) 35 6 1)))))) := by
    intro Q' q1 q2
    refine ⟨fun v w3 => nI (bm_def N n b (bm_num c)) = v ∧ w = w3, xs_def hN hW (by omega) hb g4 ⟨rfl, rfl⟩, ?_⟩
    rintro _ _ ⟨rfl, rfl⟩
    refine ⟨fun z => q1 ((nI_eq (b := 0) (by omega) (by decide)).mp z), fun z => br_nn (q2 (fun y => z (by rw [y]; rfl)))⟩
  refine wfX10_isAllTold ?_
  rw [nI_clamp (by omega), h26, h27, h28, xv_noun hN hW hx hh e, xv_num hN hW hx hh e, nI_clamp (by omega), (hX.2.2.1 n g1).2, iw, nI_clamp (by omega), w22, w23]
  have i6 : vp_in (nI n) 6 := bm_in (by omega) (by decide)
  have i24 : vp_in (nI ((2 * b + bm_num c) * 3 + bm_knd X n)) 24 := bm_in hsl (by decide)
  refine ⟨hkin, hkin, xv_in hh, hkin, xv_in hh, ?_⟩
  rcases hs with rfl | rfl | rfl
  · refine br_nt (by decide) ⟨i6, i24, br_t rfl (br_f (by decide) (hdef (fun z => ?_) (fun z => ?_)))⟩
    · simpa [z] using hq
    · simpa [z, nl_1] using hq
  · refine br_nt (by decide) ⟨i6, i24, br_f (by decide) ⟨fun z => br_f (by decide) (hdef (fun y => ?_) (fun y => ?_)), fun z => ?_⟩⟩
    · have z2 : ¬ bm_wds X ((2 * b + bm_num c) * 3 + bm_knd X n) = [] := fun q => z ((bx_w0 o22).mpr q)
      simpa [z2, y] using hq
    · have z2 : ¬ bm_wds X ((2 * b + bm_num c) * 3 + bm_knd X n) = [] := fun q => z ((bx_w0 o22).mpr q)
      simpa [z2, y, nl_1] using hq
    · have z2 : bm_wds X ((2 * b + bm_num c) * 3 + bm_knd X n) = [] := (bx_w0 o22).mp z
      simpa [z2, nl_4] using hq
  · refine br_nf rfl ⟨i6, i24, br_f (by decide) ⟨fun z => br_t rfl ?_, fun z => ?_⟩⟩
    · have z2 : ¬ bm_wds X (24 + ((2 * b + bm_num c) * 3 + bm_knd X n)) = [] := fun q => z ((bx_w0 o23).mpr q)
      rw [← Nat.add_assoc] at z2
      simpa [z2] using hq
    · have z2 : bm_wds X (24 + ((2 * b + bm_num c) * 3 + bm_knd X n)) = [] := (bx_w0 o23).mp z
      rw [← Nat.add_assoc] at z2
      simpa [z2, nl_4] using hq
def bx_af (Q : Bool → bw_W → Prop) (w : bw_W) : Option (Nat × Nat) → Prop
  | none => Q true w
  | some (h, y) => Q false (sw_i (sw_i w 35 5 (nI h)) 35 6 (nI y))
theorem xs_item {Q : Bool → bw_W → Prop} (hX : bx_X X w) (hN : bx_N N w) (hW : bm_wfN X N) (hx : bm_wfX X) {k : Nat} {q : Nat × Nat × Nat × List Nat} (hk : k < 32) (hi : bx_it q k w) (ho : bm_itok q) (hq : bx_af Q w (bm_bad X N q)) : bw_rb E (d + 2) mX10_canTellItem [.ref 35, .int (nI k)] w Q := by
  obtain ⟨s, h, b, u⟩ := q
  obtain ⟨o1, o2, o3, o4, o5⟩ := ho
  obtain ⟨i1, i2, i3, i4⟩ := hi
  dsimp only at *
  have hkin : vp_in (nI k) 32 := bm_in hk (by decide)
  unfold bm_bad at hq
  dsimp only at hq
  refine wfX10_canTellItem ?_
  rw [nI_clamp (by omega), i1]
  refine ⟨hkin, ?_⟩
  by_cases hs0 : s = 0
  · subst hs0
    exact br_nf rfl (by simpa [bx_af] using hq)
  · rw [if_neg hs0] at hq
    have hh := o3 hs0
    have hsg : ¬ nI (bm_sg s) = 119 := by
      have : s = 1 ∨ s = 2 ∨ s = 3 ∨ s = 4 ∨ s = 5 ∨ s = 6 := by omega
      rcases this with rfl | rfl | rfl | rfl | rfl | rfl <;> decide
    rw [i3 hs0]
    refine br_nt hsg ⟨hkin, xv_in hh, ?_⟩
    cases e : bm_hol N h with
    | none =>
      rw [e] at hq
      exact br_nf (xv_none hN hh e) hq
    | some p =>
      obtain ⟨n, c⟩ := p
      rw [e] at hq
      dsimp only at hq
      refine br_nt (xv_some hN hW hx hh e) ?_
      have hs : s = 1 ∨ s = 2 ∨ s = 3 ∨ s = 4 ∨ s = 5 ∨ s = 6 := by omega
      have small : ∀ t, (t = 1 ∨ t = 2 ∨ t = 3) → s = t → (if s = 4 ∨ bm_str N = false then Q true w else if s ≠ 1 ∧ bm_wds X (24 * (if s = 3 then 1 else 0) + (2 * b + bm_num c) * 3 + bm_knd X n) = [] then Q false (sw_i (sw_i w 35 5 (nI h)) 35 6 (nI 4)) else if s ≠ 3 ∧ bm_def N n b (bm_num c) ≠ 0 then Q false (sw_i (sw_i w 35 5 (nI h)) 35 6 (nI 1)) else Q true w) →
          ((¬ (¬ (gw_l w 32 51) = 0) → Q true w) ∧ ((¬ (gw_l w 32 51) = 0) → (∃ Q8 : Bool → bw_W → Prop, bw_rb E (d + 1) mX10_isAllTold [.ref 35, .int (nI k)] w Q8 ∧ ∀ v9 w10, Q8 v9 w10 → ((v9 = false → Q false w10) ∧ (v9 = true → Q true w10))))) := by
        intro t ht hst z
        have hs4 : ¬ s = 4 := by omega
        rw [hN.2.2, bm_b20]
        refine ⟨fun y => ?_, fun y => ?_⟩
        · have y2 : bm_str N = false := Classical.byContradiction y
          rw [if_pos (Or.inr y2)] at z
          exact z
        · rw [if_neg (fun q => q.elim hs4 y)] at z
          refine ⟨Q, xs_all hX hN hW hx hk i1 (i3 hs0) (i4 hs0 hs4) (by omega) hh (o4 (by omega)) e z, fun v w' hv => ⟨fun hv2 => by rw [hv2] at hv; exact hv, fun hv2 => by rw [hv2] at hv; exact hv⟩⟩
      rcases hs with rfl | rfl | rfl | rfl | rfl | rfl
      · refine br_f (by decide) (br_nt (by decide) (br_f (by decide) (small 1 (by omega) rfl ?_)))
        rw [if_neg (by omega)] at hq
        rw [apply_ite (bx_af Q w), apply_ite (bx_af Q w), apply_ite (bx_af Q w)] at hq
        exact hq
      · refine br_f (by decide) (br_nt (by decide) (br_f (by decide) (small 2 (by omega) rfl ?_)))
        rw [if_neg (by omega)] at hq
        rw [apply_ite (bx_af Q w), apply_ite (bx_af Q w), apply_ite (bx_af Q w)] at hq
        exact hq
      · refine br_f (by decide) (br_nt (by decide) (br_f (by decide) (small 3 (by omega) rfl ?_)))
        rw [if_neg (by omega)] at hq
        rw [apply_ite (bx_af Q w), apply_ite (bx_af Q w), apply_ite (bx_af Q w)] at hq
        exact hq
      · refine br_f (by decide) (br_nt (by decide) (br_t rfl ?_))
        simpa [bx_af] using hq
      · rw [i4 (by decide) (by decide)]
        refine br_t rfl ⟨hkin, Q, xs_agree5 hX hN hW hx hh (o5 (Or.inl rfl)).1 e ?_, fun v w' hv => hv⟩
        rw [if_pos (Or.inl rfl)] at hq
        cases e2 : bm_hol N b with
        | none => rw [e2] at hq; exact hq
        | some p2 =>
          rw [e2] at hq
          dsimp only at hq ⊢
          rw [if_pos rfl] at hq
          rw [apply_ite (bx_af Q w)] at hq
          exact hq
      · rw [i4 (by decide) (by decide)]
        refine br_f (by decide) (br_nf rfl ⟨hkin, Q, xs_agree6 hX hN hW hx hh (o5 (Or.inr rfl)).1 e ?_, fun v w' hv => hv⟩)
        rw [if_pos (Or.inr rfl)] at hq
        cases e2 : bm_hol N b with
        | none => rw [e2] at hq; exact hq
        | some p2 =>
          rw [e2] at hq
          dsimp only at hq ⊢
          rw [if_neg (by decide)] at hq
          rw [apply_ite (bx_af Q w)] at hq
          exact hq
end XTELL
