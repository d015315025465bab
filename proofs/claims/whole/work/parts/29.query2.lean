def bm_bi (i : Nat) : Int32 := (1 : Int32) <<< (nI i &&& 31)
/-- the holes that the first n items of a message ask -/
def br_ask (X : bm_X) (m : Nat) : Nat → Int32
  | 0 => 0
  | i + 1 =>
    let q := bm_it X (8 * m + i)
    let a := if q.1 = 0 then br_ask X m i else br_ask X m i ||| bm_bi q.2.1
    if q.1 = 5 ∨ q.1 = 6 then a ||| bm_bi q.2.2.1 else a
def br_bareF (N : bm_N) (n : Nat) : Nat → Int32
  | 0 => 0
  | i + 1 => if bm_frm N (8 * n + i) = [] then br_bareF N n i ||| bm_bi i else br_bareF N n i
def br_bare (X : bm_X) (N : bm_N) (a0 : Int32) : Int32 := match bm_ix a0 (bm_nn X) with
  | none => -1
  | some n => br_bareF N n 8
def br_msg (X : bm_X) (N : bm_N) (a0 a1 : Int32) : Int32 := match bm_ix a0 (bm_nm X) with
  | none => -1
  | some m => if a1 = 0 then nI (bm_cnt X m) else if a1 = 1 then br_ask X m (bm_cnt X m) else if a1 = 2 then (if bm_whyM X N m = none then 1 else 0) else if a1 = 3 then (if bm_whyM X N m = none then nI (bm_lineM X N m).length else -1) else -1
def br_told (X : bm_X) (N : bm_N) (a0 a1 : Int32) : Int32 := match bm_ix a0 (bm_nm X) with
  | none => -1
  | some m => if bm_whyM X N m = none then (match bm_ix a1 (bm_lineM X N m).length with | none => -1 | some i => nI ((bm_lineM X N m).getD i 0)) else -1
def br_why (X : bm_X) (N : bm_N) (a0 a1 : Int32) : Int32 := match bm_ix a0 (bm_nm X) with
  | none => -1
  | some m => match bm_whyM X N m with
    | none => -1
    | some (i, h, y) => if a1 = 0 then nI i else if a1 = 1 then nI h else if a1 = 2 then nI y else -1
section QUERY2
variable {E : bw_E} {d : Nat} {w : bw_W} {X : bm_X} {N : bm_N} {Q : Int32 → bw_W → Prop}
theorem bm_mm_iff {a0 : Int32} (hX : by_X X w) (hx : bm_wfX X) : ((¬ ((gw_i w 50 34) ≤ 0)) ∧ ((¬ (a0 < 0)) ∧ (¬ (((gw_i w 50 35) - 1) < a0)))) ↔ bm_ix a0 (bm_nm X) ≠ none := by
  have := hx.2.1
  rw [by_H0 hX hx, hX.2.1, bm_m_iff (by omega)]
  refine ⟨fun h => h.2, fun h => ⟨fun z => ?_, h⟩⟩
  rw [hx.2.2.2.2.2 z] at h
  refine h ?_
  unfold bm_ix
  rw [if_neg (by omega)]
theorem bm_line_len (hW : bm_wfN X N) (hx : bm_wfX X) {m : Nat} (hm : m < bm_nm X) : ∀ n i l, i + n = bm_cnt X m → (bm_line X N m n i l).length ≤ l.length + 18 * n
  | 0, _, l, _ => by simp [bm_line]
  | n + 1, i, l, h => by
    rw [bm_line]
    have h1 := bm_line_len hW hx hm n (i + 1) (bm_say X N (bm_it X (8 * m + i)) l) (by omega)
    have h2 := bm_say_len hW hx ((hx.2.2.2.2.1 m hm).2.2 i (by omega)) l
    omega
theorem bm_lineM_len (hW : bm_wfN X N) (hx : bm_wfX X) {m : Nat} (hm : m < bm_nm X) : (bm_lineM X N m).length ≤ 144 := by
  have h1 := bm_line_len hW hx hm (bm_cnt X m) 0 [] (by omega)
  have h2 := (hx.2.2.2.2.1 m hm).2.1
  unfold bm_lineM
  simp only [List.length_nil] at h1
  omega
theorem xs_ask (hX : bx_X X w) (hx : bm_wfX X) {m : Nat} (hm : m < bm_nm X) (hq : Q (br_ask X m (bm_cnt X m)) w) : bw_ri E (d + 0) mX3_holesAskedBy [.ref 18, .int (nI m)] w Q := by
  have hm4 := hx.2.1
  obtain ⟨hc1, hc8, hit⟩ := hx.2.2.2.2.1 m hm
  obtain ⟨g25, git⟩ := hX.2.2.2.2 m hm
  have key : ∀ n i, i + n = bm_cnt X m → bw_G E (d + 0) mX3_holesAskedBy 10 [some (.ref 18), some (.int (nI m)), some (.int (br_ask X m i)), some (.int (nI (8 * m))), some (.int (nI (8 * m + i)))] [] w (bw_qi Q) := by
    intro n
    induction n with
    | zero =>
      intro i h
      have e : i = bm_cnt X m := by omega
      subst e
      refine wfX3_holesAskedBy_10 ⟨bm_in (by omega) (by decide), ?_⟩
      rw [nI_clamp (by omega), g25, nI_add]
      exact br_t (Int32.le_refl _) hq
    | succ n ih =>
      intro i h
      have hlt : i < bm_cnt X m := by omega
      have hok := hit i hlt
      obtain ⟨i1, i2, i3, i4⟩ := git i hlt
      have IH := ih (i + 1) (by omega)
      have kin : vp_in (nI (8 * m + i)) 32 := bm_in (by omega) (by decide)
      refine wfX3_holesAskedBy_10 ⟨bm_in (by omega) (by decide), ?_⟩
      rw [nI_clamp (n := m) (by omega), g25, nI_add, nI_clamp (n := 8 * m + i) (by omega), nI_1, Nat.add_assoc]
      refine br_f (nI_ge (by omega) (by omega)) ⟨kin, ?_⟩
      rw [br_ask] at IH
      generalize bm_it X (8 * m + i) = q at *
      obtain ⟨s, h, b, u⟩ := q
      dsimp only at *
      rw [i1]
      have hs : s = 0 ∨ s = 1 ∨ s = 2 ∨ s = 3 ∨ s = 4 ∨ s = 5 ∨ s = 6 := by have := hok.1; dsimp only at this; omega
      rcases hs with rfl | rfl | rfl | rfl | rfl | rfl | rfl
      · exact br_t rfl ⟨kin, br_f (by decide) ⟨kin, br_nt (by decide) IH⟩⟩
      · rw [i3 (by decide)]
        exact br_f (by decide) ⟨kin, kin, br_f (by decide) ⟨kin, br_nt (by decide) IH⟩⟩
      · rw [i3 (by decide)]
        exact br_f (by decide) ⟨kin, kin, br_f (by decide) ⟨kin, br_nt (by decide) IH⟩⟩
      · rw [i3 (by decide)]
        exact br_f (by decide) ⟨kin, kin, br_f (by decide) ⟨kin, br_nt (by decide) IH⟩⟩
      · rw [i3 (by decide)]
        exact br_f (by decide) ⟨kin, kin, br_f (by decide) ⟨kin, br_nt (by decide) IH⟩⟩
      · rw [i3 (by decide), i4 (by decide) (by decide)]
        exact br_f (by decide) ⟨kin, kin, br_t rfl ⟨kin, IH⟩⟩
      · rw [i3 (by decide), i4 (by decide) (by decide)]
        exact br_f (by decide) ⟨kin, kin, br_f (by decide) ⟨kin, br_nf rfl ⟨kin, IH⟩⟩⟩
  refine wfX3_holesAskedBy ?_
  rw [nl_8, pk_mul, Nat.mul_comm m 8]
  exact key (bm_cnt X m) 0 (by omega)
theorem ys_ask (hX : by_X X w) (hx : bm_wfX X) {m : Nat} (hm : m < bm_nm X) (hq : Q (br_ask X m (bm_cnt X m)) w) : bw_ri E (d + 0) mX12_askedBy [.ref 50, .int (nI m)] w Q := by
  have hm4 := hx.2.1
  obtain ⟨hc1, hc8, hit⟩ := hx.2.2.2.2.1 m hm
  obtain ⟨g25, git⟩ := hX.2.2.2.2 m hm
  have key : ∀ n i, i + n = bm_cnt X m → bw_G E (d + 0) mX12_askedBy 4 [some (.ref 50), some (.int (nI m)), some (.int (br_ask X m i)), some (.int (nI i)), none] [] w (bw_qi Q) := by
    intro n
    induction n with
    | zero =>
      intro i h
      have e : i = bm_cnt X m := by omega
      subst e
      refine wfX12_askedBy_4 ⟨bm_in (by omega) (by decide), ?_⟩
      rw [nI_clamp (by omega), g25]
      exact br_t (Int32.le_refl _) hq
    | succ n ih =>
      intro i h
      have hlt : i < bm_cnt X m := by omega
      have hok := hit i hlt
      obtain ⟨i1, i2, i3, i4⟩ := git i hlt
      have IH := ih (i + 1) (by omega)
      have k0 : vp_in (nI (3 * (8 * m + i))) 96 := bm_in (by omega) (by decide)
      have k1 : vp_in (nI (3 * (8 * m + i) + 1)) 96 := bm_in (by omega) (by decide)
      have k2 : vp_in (nI (3 * (8 * m + i) + 2)) 96 := bm_in (by omega) (by decide)
      refine wfX12_askedBy_4 ⟨bm_in (by omega) (by decide), ?_⟩
      rw [nI_clamp (n := m) (by omega), g25, nI_1, show (8 : Int32) = nI 8 from rfl, pk_mul, nI_add, show (3 : Int32) = nI 3 from rfl, pk_mul, show (2 : Int32) = nI 2 from rfl, nI_add, nI_1, nI_clamp (n := 3 * (8 * m + i)) (by omega), nI_clamp (n := 3 * (8 * m + i) + 1) (by omega), nI_clamp (n := 3 * (8 * m + i) + 2) (by omega)]
      refine br_f (nI_ge (by omega) (by omega)) ⟨k0, ?_⟩
      rw [br_ask] at IH
      generalize bm_it X (8 * m + i) = q at *
      obtain ⟨s, h, b, u⟩ := q
      dsimp only at *
      rw [i1]
      have hs : s = 0 ∨ s = 1 ∨ s = 2 ∨ s = 3 ∨ s = 4 ∨ s = 5 ∨ s = 6 := by have := hok.1; dsimp only at this; omega
      rcases hs with rfl | rfl | rfl | rfl | rfl | rfl | rfl
      · exact br_nf rfl ⟨k0, br_t (by decide) (by rw [Int32.or_zero, Int32.or_zero]; exact IH)⟩
      · rw [i3 (by decide)]
        exact br_nt (by decide) ⟨k1, k0, br_t (by decide) (by rw [Int32.or_zero]; exact IH)⟩
      · rw [i3 (by decide)]
        exact br_nt (by decide) ⟨k1, k0, br_t (by decide) (by rw [Int32.or_zero]; exact IH)⟩
      · rw [i3 (by decide)]
        exact br_nt (by decide) ⟨k1, k0, br_t (by decide) (by rw [Int32.or_zero]; exact IH)⟩
      · rw [i3 (by decide)]
        exact br_nt (by decide) ⟨k1, k0, br_t (by decide) (by rw [Int32.or_zero]; exact IH)⟩
      · rw [i3 (by decide), i4 (by decide) (by decide)]
        exact br_nt (by decide) ⟨k1, k0, br_f (by decide) ⟨k2, IH⟩⟩
      · rw [i3 (by decide), i4 (by decide) (by decide)]
        exact br_nt (by decide) ⟨k1, k0, br_f (by decide) ⟨k2, IH⟩⟩
  exact wfX12_askedBy (key (bm_cnt X m) 0 (by omega))
theorem qx_bare {a0 : Int32} (hX : bx_X X w) (hN : bx_N N w) (hW : bm_wfN X N) (hx : bm_wfX X) (hq : Q (br_bare X N a0) w) : bw_ri E (d + 1) mX11_bare [.ref 0, .int a0] w Q := by
  have h6 := hx.1
  refine wfX11_bare ?_
  rw [hX.1, bm_x_iff (by omega)]
  unfold br_bare at hq
  cases e0 : bm_ix a0 (bm_nn X) with
  | none => rw [e0] at hq; exact br_f (fun q => q rfl) hq
  | some n =>
    rw [e0] at hq
    obtain ⟨g0, rfl⟩ := bm_ix_some e0
    refine br_t (by simp) ?_
    have key : ∀ j i, i + j = 8 → bw_G E (d + 1) mX11_bare 14 [some (.ref 0), some (.int (nI n)), some (.int (br_bareF N n i)), some (.int (nI i))] [] w (bw_qi Q) := by
      intro j
      induction j with
      | zero =>
        intro i h
        have e : i = 8 := by omega
        subst e
        exact wfX11_bare_14 (br_t (by decide) hq)
      | succ j ih =>
        intro i h
        have IH := ih (i + 1) (by omega)
        refine wfX11_bare_14 (br_f (nI_ge (a := i) (b := 8) (by omega) (by decide)) ?_)
        rw [show (8 : Int32) = nI 8 from rfl, pk_mul, nI_add, nI_clamp (by omega), Nat.mul_comm n 8, hN.1 _ (by omega), bx_w0 (hW.1 _ (by omega)), nI_1]
        rw [br_bareF] at IH
        refine ⟨bm_in (by omega) (by decide), fun z => ?_, fun z => ?_⟩
        · rw [if_neg z] at IH; exact IH
        · rw [if_pos z] at IH; exact IH
    exact key 8 0 (by omega)
theorem qm_bare {a0 : Int32} (hX : by_X X w) (hN : by_N N w) (hW : bm_wfN X N) (hx : bm_wfX X) (hq : Q (br_bare X N a0) w) : bw_ri E (d + 2) mX12_bare [.ref 50, .int a0] w Q := by
  have h6 := hx.1
  refine wfX12_bare ?_
  rw [hX.1, bm_m_iff (by omega)]
  unfold br_bare at hq
  cases e0 : bm_ix a0 (bm_nn X) with
  | none => rw [e0] at hq; exact br_f (fun q => q rfl) hq
  | some n =>
    rw [e0] at hq
    obtain ⟨g0, rfl⟩ := bm_ix_some e0
    refine br_t (by simp) ?_
    have key : ∀ j i, i + j = 8 → bw_G E (d + 2) mX12_bare 14 [some (.ref 50), some (.int (nI n)), some (.int (br_bareF N n i)), some (.int (nI i))] [] w (bw_qi Q) := by
      intro j
      induction j with
      | zero =>
        intro i h
        have e : i = 8 := by omega
        subst e
        exact wfX12_bare_14 (br_t (by decide) hq)
      | succ j ih =>
        intro i h
        have IH := ih (i + 1) (by omega)
        refine wfX12_bare_14 (br_f (nI_ge (a := i) (b := 8) (by omega) (by decide)) ?_)
        rw [show (8 : Int32) = nI 8 from rfl, pk_mul, show (7 : Int32) = nI 7 from rfl, nI_add, nI_add, nI_clamp (by omega), Nat.add_assoc, hN.1 _ (by omega), by_w0 (hW.1 _ (by omega)), nI_1, Int32.or_zero]
        rw [br_bareF] at IH
        refine ⟨bm_in (by omega) (by decide), fun z => ?_, fun z => ?_⟩
        · rw [if_neg z] at IH; exact IH
        · rw [if_pos z] at IH; exact IH
    exact key 8 0 (by omega)
theorem bm_big {a : Int32} {n : Nat} (hn : n < 2 ^ 31) (z : a.toInt < 0 ∨ (n : Int) < a.toInt) : ∀ k, k ≤ n → ¬ a = nI k := by
  intro k hk e
  rw [e, nI_toInt (by omega)] at z
  omega
theorem qx_msg {a0 a1 : Int32} (hX : bx_X X w) (hN : bx_N N w) (hW : bm_wfN X N) (hx : bm_wfX X) (hq : ∀ w', bw_fr [35, 36] w w' → Q (br_msg X N a0 a1) w') : bw_ri E (d + 5) mX11_message [.ref 0, .int a0, .int a1] w Q := by
  have h4 := hx.2.1
  refine wfX11_message ?_
  rw [hX.2.1, bm_x_iff (by omega)]
  unfold br_msg at hq
  cases e0 : bm_ix a0 (bm_nm X) with
  | none => rw [e0] at hq; exact br_f (fun q => q rfl) (hq w (bw_fr.rf _ _))
  | some m =>
    rw [e0] at hq
    obtain ⟨g0, rfl⟩ := bm_ix_some e0
    dsimp only at hq
    refine br_t (by simp) ⟨fun z => ?_, fun z => ?_, fun z => ?_, fun z => ?_, fun z => ?_⟩
    · subst z
      rw [nI_clamp (by omega), (hX.2.2.2.2 m g0).1]
      exact ⟨bm_in (by omega) (by decide), hq w (bw_fr.rf _ _)⟩
    · subst z
      exact ⟨Q, xs_ask (d := d + 4) hX hx g0 (hq w (bw_fr.rf _ _)), fun v w4 h => h⟩
    · subst z
      refine ⟨_, xs_can (d := d + 1) (Q := fun v w7 => ((v = false → Q 0 w7) ∧ (v = true → Q 1 w7))) hX hN hW hx g0 ?_, fun v w7 h => h⟩
      have := hq (bx_cw w (bm_whyM X N m)) ((bx_cw_fr w _).up (by decide))
      cases hy : bm_whyM X N m with
      | none => rw [hy] at this; exact ⟨fun q => absurd q (by decide), fun _ => this⟩
      | some p => rw [hy] at this; exact ⟨fun _ => this, fun q => (by cases q)⟩
    · subst z
      refine ⟨Q, xs_bytes (d := d) hX hN hW hx g0 (fun hy => ?_) (fun hy w' hf hl => ?_), fun v w10 h => h⟩
      · have := hq (bx_cw w (bm_whyM X N m)) ((bx_cw_fr w _).up (by decide))
        rw [if_neg (by decide), if_neg (by decide), if_neg (by decide), if_pos rfl, if_neg hy] at this
        exact this
      · have := hq w' hf
        rw [if_neg (by decide), if_neg (by decide), if_neg (by decide), if_pos rfl, if_pos hy] at this
        exact this
    · have b := bm_big (n := 3) (by decide) z
      have := hq w (bw_fr.rf _ _)
      rw [if_neg (show ¬ a1 = 0 from b 0 (by omega)), if_neg (show ¬ a1 = 1 from b 1 (by omega)), if_neg (show ¬ a1 = 2 from b 2 (by omega)), if_neg (show ¬ a1 = 3 from b 3 (by omega))] at this
      exact this
theorem qm_msg {a0 a1 : Int32} (hX : by_X X w) (hN : by_N N w) (hW : bm_wfN X N) (hx : bm_wfX X) (hq : ∀ w', by_fr [71] [37, 38, 39, 40] w w' → Q (br_msg X N a0 a1) w') : bw_ri E (d + 6) mX12_message [.ref 50, .int a0, .int a1] w Q := by
  have h4 := hx.2.1
  refine wfX12_message ?_
  rw [bm_mm_iff hX hx, show ((¬ (a1 < 0)) ∧ (¬ (3 < a1))) = ((¬ (a1 < 0)) ∧ (¬ (nI 3 < a1))) from rfl, bm_k_iff (n := 4) (k := 3) rfl (by decide)]
  unfold br_msg at hq
  cases e0 : bm_ix a0 (bm_nm X) with
  | none => rw [e0] at hq; exact br_nt (fun q => q rfl) (hq w (by_fr.rf _ _ _))
  | some m =>
    rw [e0] at hq
    obtain ⟨g0, rfl⟩ := bm_ix_some e0
    dsimp only at hq
    refine br_nf (by simp) ?_
    cases e1 : bm_ix a1 4 with
    | none =>
      refine br_f (fun q => q rfl) ?_
      have b : ∀ k, k < 4 → ¬ a1 = nI k := fun k hk e => by rw [e, bm_ix_nI hk (by decide)] at e1; cases e1
      have := hq w (by_fr.rf _ _ _)
      rw [if_neg (show ¬ a1 = 0 from b 0 (by omega)), if_neg (show ¬ a1 = 1 from b 1 (by omega)), if_neg (show ¬ a1 = 2 from b 2 (by omega)), if_neg (show ¬ a1 = 3 from b 3 (by omega))] at this
      exact this
    | some j =>
      obtain ⟨g1, rfl⟩ := bm_ix_some e1
      refine br_t (by simp) ⟨fun z => ?_, fun z => ?_, fun z => ?_, fun z => ?_⟩
      · rw [z] at hq
        rw [nI_clamp (by omega), (hX.2.2.2.2 m g0).1]
        exact ⟨bm_in (by omega) (by decide), hq w (by_fr.rf _ _ _)⟩
      · rw [z] at hq
        exact ⟨Q, ys_ask (d := d + 5) hX hx g0 (hq w (by_fr.rf _ _ _)), fun v w4 h => h⟩
      · rw [z] at hq
        refine ⟨_, ys_tells (d := d) (Q := fun v w7 => ((v = false → Q 0 w7) ∧ (v = true → Q 1 w7))) hX hN hW hx g0 (fun w' hf ht => ?_), fun v w7 h => h⟩
        have := hq w' hf
        cases hy : bm_whyM X N m with
        | none => rw [hy] at this; exact ⟨fun q => absurd q (by decide), fun _ => this⟩
        | some p => rw [hy] at this; exact ⟨fun _ => this, fun q => (by cases q)⟩
      · rw [nI_toInt (by omega)] at z
        have e3 : j = 3 := by omega
        subst e3
        refine ⟨_, ys_tells (d := d) (Q := fun v w7 => ((v = false → Q (-1) w7) ∧ (v = true → Q (gw_i w7 50 37) w7))) hX hN hW hx g0 (fun w' hf ht => ?_), fun v w7 h => h⟩
        have := hq w' hf
        rw [if_neg (by decide), if_neg (by decide), if_neg (by decide), if_pos (show nI 3 = 3 from rfl)] at this
        unfold by_tn at ht
        cases hy : bm_whyM X N m with
        | none =>
          rw [hy] at this ht
          refine ⟨fun q => absurd q (by decide), fun _ => ?_⟩
          rw [ht.1.1]
          exact this
        | some p => rw [hy] at this; exact ⟨fun _ => this, fun q => (by cases q)⟩
theorem qx_told {a0 a1 : Int32} (hX : bx_X X w) (hN : bx_N N w) (hW : bm_wfN X N) (hx : bm_wfX X) (hq : ∀ w', bw_fr [35, 36] w w' → Q (br_told X N a0 a1) w') : bw_ri E (d + 5) mX11_told [.ref 0, .int a0, .int a1] w Q := by
  have h4 := hx.2.1
  refine wfX11_told ?_
  rw [hX.2.1, bm_x_iff (by omega)]
  unfold br_told at hq
  cases e0 : bm_ix a0 (bm_nm X) with
  | none => rw [e0] at hq; exact br_f (fun q => q rfl) (hq w (bw_fr.rf _ _))
  | some m =>
    rw [e0] at hq
    obtain ⟨g0, rfl⟩ := bm_ix_some e0
    dsimp only at hq
    have hlen := bm_lineM_len hW hx g0
    refine br_t (by simp) ⟨_, xs_bytes (d := d) (Q := fun v2 w3 => ((a1 < 0 → Q (-1) w3) ∧ (¬ (a1 < 0) → ((v2 ≤ a1 → Q (-1) w3) ∧ (¬ (v2 ≤ a1) → (vp_in a1 144) ∧ Q (gw_i w3 36 (a1.toNatClampNeg)) w3))))) hX hN hW hx g0 (fun hy => ?_) (fun hy w' hf hl => ?_), fun v w3 h => h⟩
    · have := hq (bx_cw w (bm_whyM X N m)) ((bx_cw_fr w _).up (by decide))
      rw [if_neg hy] at this
      refine ⟨fun _ => this, fun c => ⟨fun _ => this, fun c2 => absurd ?_ c2⟩⟩
      obtain ⟨j, hj, rfl⟩ := nI_of c
      rw [fa_le, nI_toInt hj]
      show (-1 : Int) ≤ _
      omega
    · have := hq w' hf
      rw [if_pos hy] at this
      refine ⟨fun c => ?_, fun c => ⟨fun c2 => ?_, fun c2 => ?_⟩⟩
      · cases e1 : bm_ix a1 (bm_lineM X N m).length with
        | none => rw [e1] at this; exact this
        | some j => exact absurd c ((bm_x_iff (n := (bm_lineM X N m).length) (by omega)).mpr (by rw [e1]; simp)).1
      · cases e1 : bm_ix a1 (bm_lineM X N m).length with
        | none => rw [e1] at this; exact this
        | some j => exact absurd c2 ((bm_x_iff (n := (bm_lineM X N m).length) (by omega)).mpr (by rw [e1]; simp)).2
      · cases e1 : bm_ix a1 (bm_lineM X N m).length with
        | none => exact absurd e1 ((bm_x_iff (by omega)).mp ⟨c, c2⟩)
        | some j =>
          rw [e1] at this
          obtain ⟨g1, rfl⟩ := bm_ix_some e1
          rw [nI_clamp (by omega), hl.2 j g1]
          exact ⟨bm_in (by omega) (by decide), this⟩
theorem qm_told {a0 a1 : Int32} (hX : by_X X w) (hN : by_N N w) (hW : bm_wfN X N) (hx : bm_wfX X) (hq : ∀ w', by_fr [71] [37, 38, 39, 40] w w' → Q (br_told X N a0 a1) w') : bw_ri E (d + 6) mX12_told_ [.ref 50, .int a0, .int a1] w Q := by
  have h4 := hx.2.1
  refine wfX12_told_ ?_
  rw [bm_mm_iff hX hx]
  unfold br_told at hq
  cases e0 : bm_ix a0 (bm_nm X) with
  | none => rw [e0] at hq; exact br_nt (fun q => q rfl) (hq w (by_fr.rf _ _ _))
  | some m =>
    rw [e0] at hq
    obtain ⟨g0, rfl⟩ := bm_ix_some e0
    dsimp only at hq
    have hlen := bm_lineM_len hW hx g0
    refine br_nf (by simp) ⟨_, ys_tells (d := d) (Q := fun v2 w3 => ((v2 = false → Q (-1) w3) ∧ (v2 = true → ((¬ ((¬ (a1 < 0)) ∧ (¬ (((gw_i w3 50 37) - 1) < a1))) → Q (-1) w3) ∧ ((¬ (a1 < 0)) ∧ (¬ (((gw_i w3 50 37) - 1) < a1)) → (vp_in a1 200) ∧ Q (gw_i w3 71 (a1.toNatClampNeg)) w3))))) hX hN hW hx g0 (fun w' hf ht => ?_), fun v w3 h => h⟩
    have := hq w' hf
    unfold by_tn at ht
    cases hy : bm_whyM X N m with
    | some p =>
      rw [if_neg (by rw [hy]; simp)] at this
      exact ⟨fun _ => this, fun q => (by cases q)⟩
    | none =>
      rw [hy] at ht
      rw [if_pos hy] at this
      refine ⟨fun q => absurd q (by decide), fun _ => ?_⟩
      rw [ht.1.1, bm_m_iff (by omega)]
      cases e1 : bm_ix a1 (bm_lineM X N m).length with
      | none => rw [e1] at this; exact br_nt (fun q => q rfl) this
      | some j =>
        rw [e1] at this
        obtain ⟨g1, rfl⟩ := bm_ix_some e1
        rw [nI_clamp (by omega), ht.1.2 j g1]
        exact br_nf (by simp) ⟨bm_in (by omega) (by decide), this⟩
theorem qx_why {a0 a1 : Int32} (hX : bx_X X w) (hN : bx_N N w) (hW : bm_wfN X N) (hx : bm_wfX X) (hq : ∀ w', bw_fr [35, 36] w w' → Q (br_why X N a0 a1) w') : bw_ri E (d + 4) mX11_why [.ref 0, .int a0, .int a1] w Q := by
  have h4 := hx.2.1
  refine wfX11_why ?_
  rw [hX.2.1, bm_x_iff (by omega)]
  unfold br_why at hq
  cases e0 : bm_ix a0 (bm_nm X) with
  | none => rw [e0] at hq; exact br_nt (fun q => q rfl) (hq w (bw_fr.rf _ _))
  | some m =>
    rw [e0] at hq
    obtain ⟨g0, rfl⟩ := bm_ix_some e0
    dsimp only at hq
    refine br_nf (by simp) ⟨_, xs_can (d := d) (Q := fun v2 w3 => ((v2 = false → ((a1 = 0 → Q (gw_i w3 35 4) w3) ∧ (a1 = 1 → Q (gw_i w3 35 5) w3) ∧ (a1 = 2 → Q (gw_i w3 35 6) w3) ∧ (a1.toInt < 0 ∨ 2 < a1.toInt → Q (-1) w3))) ∧ (v2 = true → Q (-1) w3))) hX hN hW hx g0 ?_, fun v w3 h => h⟩
    have := hq (bx_cw w (bm_whyM X N m)) ((bx_cw_fr w _).up (by decide))
    cases hy : bm_whyM X N m with
    | none => rw [hy] at this; exact ⟨fun q => absurd q (by decide), fun _ => this⟩
    | some p =>
      obtain ⟨i, h, y⟩ := p
      rw [hy] at this
      dsimp only at this
      have v4 : gw_i (bx_cw w (some (i, h, y))) 35 4 = nI i := by simp [bx_cw, gs_ii]
      have v5 : gw_i (bx_cw w (some (i, h, y))) 35 5 = nI h := by simp [bx_cw, gs_ii]
      have v6 : gw_i (bx_cw w (some (i, h, y))) 35 6 = nI y := by simp [bx_cw, gs_ii]
      refine ⟨fun _ => ?_, fun q => (by cases q)⟩
      rw [v4, v5, v6]
      refine ⟨fun z => ?_, fun z => ?_, fun z => ?_, fun z => ?_⟩
      · subst z; exact this
      · subst z; exact this
      · subst z; exact this
      · have b := bm_big (n := 2) (by decide) z
        rw [if_neg (show ¬ a1 = 0 from b 0 (by omega)), if_neg (show ¬ a1 = 1 from b 1 (by omega)), if_neg (show ¬ a1 = 2 from b 2 (by omega))] at this
        exact this
theorem qm_why {a0 a1 : Int32} (hX : by_X X w) (hN : by_N N w) (hW : bm_wfN X N) (hx : bm_wfX X) (hq : ∀ w', by_fr [71] [37, 38, 39, 40] w w' → Q (br_why X N a0 a1) w') : bw_ri E (d + 6) mX12_why [.ref 50, .int a0, .int a1] w Q := by
  have h4 := hx.2.1
  refine wfX12_why ?_
  rw [bm_mm_iff hX hx, show ((¬ (a1 < 0)) ∧ (¬ (2 < a1))) = ((¬ (a1 < 0)) ∧ (¬ (nI 2 < a1))) from rfl, bm_k_iff (n := 3) (k := 2) rfl (by decide)]
  unfold br_why at hq
  cases e0 : bm_ix a0 (bm_nm X) with
  | none => rw [e0] at hq; exact br_nt (fun q => q rfl) (hq w (by_fr.rf _ _ _))
  | some m =>
    rw [e0] at hq
    obtain ⟨g0, rfl⟩ := bm_ix_some e0
    dsimp only at hq
    refine br_nf (by simp) ?_
    cases e1 : bm_ix a1 3 with
    | none =>
      refine br_nt (fun q => q rfl) ?_
      have b : ∀ k, k < 3 → ¬ a1 = nI k := fun k hk e => by rw [e, bm_ix_nI hk (by decide)] at e1; cases e1
      have := hq w (by_fr.rf _ _ _)
      cases hy : bm_whyM X N m with
      | none => rw [hy] at this; exact this
      | some p =>
        rw [hy] at this
        dsimp only at this
        rw [if_neg (show ¬ a1 = 0 from b 0 (by omega)), if_neg (show ¬ a1 = 1 from b 1 (by omega)), if_neg (show ¬ a1 = 2 from b 2 (by omega))] at this
        exact this
    | some j =>
      obtain ⟨g1, rfl⟩ := bm_ix_some e1
      refine br_nf (by simp) ⟨_, ys_tells (d := d) (Q := fun v2 w3 => ((v2 = false → ((¬ nI j = 0 → ((¬ nI j = 1 → Q (gw_i w3 50 40) w3) ∧ (nI j = 1 → Q (gw_i w3 50 39) w3))) ∧ (nI j = 0 → Q (gw_i w3 50 38) w3))) ∧ (v2 = true → Q (-1) w3))) hX hN hW hx g0 (fun w' hf ht => ?_), fun v w3 h => h⟩
      have := hq w' hf
      unfold by_tn at ht
      cases hy : bm_whyM X N m with
      | none => rw [hy] at this; exact ⟨fun q => absurd q (by decide), fun _ => this⟩
      | some p =>
        obtain ⟨i, h, y⟩ := p
        rw [hy] at this ht
        dsimp only at this ht
        rw [ht.1, ht.2.1, ht.2.2]
        refine ⟨fun _ => ?_, fun q => (by cases q)⟩
        have hj : j = 0 ∨ j = 1 ∨ j = 2 := by omega
        rcases hj with rfl | rfl | rfl
        · exact br_nf rfl this
        · exact br_nt (by decide) (br_nf rfl this)
        · exact br_nt (by decide) (br_nt (by decide) this)
end QUERY2
