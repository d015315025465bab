/-! most -/
/-- the longest among the first n messages, its bytes -/
def bm_lo (X : bm_X) (N : bm_N) : Nat → Option (Nat × Nat)
  | 0 => none
  | n + 1 => if bm_whyM X N n = none then (match bm_lo X N n with
      | none => some (n, (bm_lineM X N n).length)
      | some (b, l) => if (bm_lineM X N n).length ≤ l then some (b, l) else some (n, (bm_lineM X N n).length)) else bm_lo X N n
def bm_o1 : Option (Nat × Nat) → Int32
  | none => -1
  | some (b, _) => nI b
def bm_o2 : Option (Nat × Nat) → Int32
  | none => -1
  | some (_, l) => nI l
def bm_o3 : Option (Nat × Nat) → Int32
  | none => 0
  | some (_, l) => nI l
/-- missing of the first n messages -/
def bm_ma (X : bm_X) (N : bm_N) : Nat → Nat
  | 0 => 0
  | n + 1 => bm_ma X N n + bm_mc X N n (bm_cnt X n)
/-- the noun of the fewest forms among the first n + 1 -/
def bm_fw (N : bm_N) : Nat → Nat
  | 0 => 0
  | n + 1 => if bm_wc (bm_frm N) (8 * bm_fw N n) 8 ≤ bm_wc (bm_frm N) (8 * (n + 1)) 8 then bm_fw N n else n + 1
def br_fh (N : bm_N) : Nat → Int32
  | 0 => 0
  | h + 1 => if bm_hol N h = none then br_fh N h else br_fh N h ||| bm_bi h
/-- whether one of the first g forms of a noun, but the f-th, is as that -/
def bm_tg (N : bm_N) (n f : Nat) : Nat → Bool
  | 0 => false
  | g + 1 => bm_tg N n f g || (decide (g ≠ f) && decide (bm_frm N (8 * n + g) = bm_frm N (8 * n + f)))
def bm_tw (N : bm_N) (i : Nat) : Bool := decide (bm_frm N i ≠ []) && bm_tg N (i / 8) (i % 8) 8
def bm_wy (X : bm_X) (N : bm_N) (a : Int32) : Nat → Nat
  | 0 => 0
  | n + 1 => bm_wy X N a n + (match bm_whyM X N n with
    | none => 0
    | some (_, _, y) => if nI y = a then 1 else 0)
def br_most (X : bm_X) (N : bm_N) (a0 : Int32) : Int32 := if bm_nn X = 0 then -1000000 else if a0 = 0 then bm_o1 (bm_lo X N (bm_nm X)) else if a0 = 1 then bm_o3 (bm_lo X N (bm_nm X)) else if a0 = 2 then nI (bm_ma X N (bm_nm X)) else if a0 = 3 then nI (bm_fw N (bm_nn X - 1)) else if a0 = 4 then br_fh N 3 else if a0 = 5 then nI (fa_cnt (bm_tw N) 48) else if bm_ix a0 11 = none then -1000000 else nI (bm_wy X N (a0 - 6) (bm_nm X))
section MOST
variable {E : bw_E} {d : Nat} {w : bw_W} {X : bm_X} {N : bm_N} {Q : Int32 → bw_W → Prop}
theorem bm_lo_some : ∀ {n b l : Nat}, bm_lo X N n = some (b, l) → b < n ∧ bm_whyM X N b = none ∧ l = (bm_lineM X N b).length
  | 0, _, _, h => by cases h
  | n + 1, b, l, h => by
    rw [bm_lo] at h
    split at h
    · rename_i hy
      cases e : bm_lo X N n with
      | none => rw [e] at h; cases h; exact ⟨by omega, hy, rfl⟩
      | some p =>
        obtain ⟨b', l'⟩ := p
        rw [e] at h
        have h' : (if (bm_lineM X N n).length ≤ l' then some (b', l') else some (n, (bm_lineM X N n).length)) = some (b, l) := h
        split at h'
        · cases h'
          have := bm_lo_some e
          exact ⟨by omega, this.2⟩
        · cases h'; exact ⟨by omega, hy, rfl⟩
    · have := bm_lo_some h
      exact ⟨by omega, this.2⟩
theorem xs_longest (hX : bx_X X w) (hN : bx_N N w) (hW : bm_wfN X N) (hx : bm_wfX X) (hq : ∀ w', bw_fr [35, 36] w w' → Q (bm_o1 (bm_lo X N (bm_nm X))) w') : bw_ri E (d + 5) mX10_longest [.ref 35] w Q := by
  have hm4 := hx.2.1
  have key : ∀ n j (w' : bw_W), j + n = bm_nm X → bw_fr [35, 36] w w' → bw_G E (d + 5) mX10_longest 6 [some (.ref 35), some (.int (bm_o1 (bm_lo X N j))), some (.int (bm_o2 (bm_lo X N j))), some (.int (nI j)), none] [] w' (bw_qi Q) := by
    intro n
    induction n with
    | zero =>
      intro j w' hj hf
      have e : j = bm_nm X := by omega
      subst e
      refine wfX10_longest_6 (br_t ?_ (hq w' hf))
      rw [hf.i (by decide), hX.2.1]
      exact Int32.le_refl _
    | succ n ih =>
      intro j w' hj hf
      have hX' := hX.fr hf (by decide)
      have hN' := hN.fr hf (by decide)
      have hlen := bm_lineM_len hW hx (m := j) (by omega)
      refine wfX10_longest_6 (br_f ?_ ⟨_, xs_bytes (d := d) (Q := fun v2 w3 => ((v2 ≤ (bm_o2 (bm_lo X N j)) → bw_G E (d + 5) mX10_longest 6 [some (.ref 35), some (.int (bm_o1 (bm_lo X N j))), some (.int (bm_o2 (bm_lo X N j))), some (.int (nI j + 1)), none] [] w3 (bw_qi Q)) ∧ (¬ (v2 ≤ (bm_o2 (bm_lo X N j))) → bw_G E (d + 5) mX10_longest 6 [some (.ref 35), some (.int (nI j)), some (.int v2), some (.int (nI j + 1)), none] [] w3 (bw_qi Q)))) hX' hN' hW hx (by omega) ?_ ?_, fun _ _ h => h⟩)
      · rw [hX'.2.1]; exact nI_ge (by omega) (by omega)
      · intro hy
        have IH := ih (j + 1) _ (by omega) (hf.tr ((bx_cw_fr w' (bm_whyM X N j)).up (by decide)))
        rw [bm_lo, if_neg hy] at IH
        rw [nI_1]
        refine br_t ?_ IH
        cases e : bm_lo X N j with
        | none => exact Int32.le_refl _
        | some p =>
          obtain ⟨b, l⟩ := p
          have hl := bm_lineM_len hW hx (m := b) (by have := bm_lo_some e; omega)
          rw [← (bm_lo_some e).2.2] at hl
          show (-1 : Int32) ≤ nI l
          rw [fa_le, nI_toInt (by omega)]
          have : (-1 : Int32).toInt = -1 := rfl
          omega
      · intro hy w2 hf2 _
        have IH := ih (j + 1) w2 (by omega) (hf.tr hf2)
        rw [bm_lo, if_pos hy] at IH
        rw [nI_1]
        cases e : bm_lo X N j with
        | none =>
          rw [e] at IH
          refine br_f ?_ IH
          show ¬ nI _ ≤ (-1 : Int32)
          rw [fa_le, nI_toInt (by omega)]
          have : (-1 : Int32).toInt = -1 := rfl
          omega
        | some p =>
          obtain ⟨b, l⟩ := p
          have hl := bm_lineM_len hW hx (m := b) (by have := bm_lo_some e; omega)
          rw [← (bm_lo_some e).2.2] at hl
          rw [e] at IH
          have IH' : bw_G E (d + 5) mX10_longest 6 [some (.ref 35), some (.int (bm_o1 (if (bm_lineM X N j).length ≤ l then some (b, l) else some (j, (bm_lineM X N j).length)))), some (.int (bm_o2 (if (bm_lineM X N j).length ≤ l then some (b, l) else some (j, (bm_lineM X N j).length)))), some (.int (nI (j + 1))), none] [] w2 (bw_qi Q) := IH
          show (nI _ ≤ nI l → _) ∧ (¬ nI _ ≤ nI l → _)
          rw [nI_leI (by omega) (by omega)]
          refine ⟨fun z => ?_, fun z => ?_⟩
          · rw [if_pos z] at IH'; exact IH'
          · rw [if_neg z] at IH'; exact IH'
  exact wfX10_longest (key (bm_nm X) 0 w (by omega) (bw_fr.rf _ _))
theorem bm_ma_le (hx : bm_wfX X) : ∀ n, n ≤ bm_nm X → bm_ma X N n ≤ 8 * n
  | 0, _ => Nat.le_refl _
  | n + 1, h => by
    have h1 := bm_ma_le hx n (by omega)
    have h2 := bm_mc_le X N n (bm_cnt X n)
    have h3 := (hx.2.2.2.2.1 n (by omega)).2.1
    rw [bm_ma]; omega
theorem xs_misAll (hX : bx_X X w) (hN : bx_N N w) (hW : bm_wfN X N) (hx : bm_wfX X) (hq : Q (nI (bm_ma X N (bm_nm X))) w) : bw_ri E (d + 4) mX11_missingOfAll [.ref 0] w Q := by
  have hm4 := hx.2.1
  have key : ∀ n j, j + n = bm_nm X → bw_G E (d + 4) mX11_missingOfAll 4 [some (.ref 0), some (.int (nI (bm_ma X N j))), some (.int (nI j))] [] w (bw_qi Q) := by
    intro n
    induction n with
    | zero =>
      intro j hj
      have e : j = bm_nm X := by omega
      subst e
      refine wfX11_missingOfAll_4 (br_t ?_ hq)
      rw [hX.2.1]; exact Int32.le_refl _
    | succ n ih =>
      intro j hj
      have IH := ih (j + 1) (by omega)
      refine wfX11_missingOfAll_4 (br_f ?_ ⟨fun v w3 => nI (bm_mc X N j (bm_cnt X j)) = v ∧ w = w3, xs_misOf hX hN hW hx (by omega) ⟨rfl, rfl⟩, ?_⟩)
      · rw [hX.2.1]; exact nI_ge (by omega) (by omega)
      · rintro _ _ ⟨rfl, rfl⟩
        rw [nI_add, nI_1]; exact IH
  exact wfX11_missingOfAll (key (bm_nm X) 0 (by omega))
theorem ys_misAll (hX : by_X X w) (hN : by_N N w) (hW : bm_wfN X N) (hx : bm_wfX X) (hq : Q (nI (bm_ma X N (bm_nm X))) w) : bw_ri E (d + 5) mX12_missingOfAll [.ref 50] w Q := by
  have hm4 := hx.2.1
  have key : ∀ n j, j + n = bm_nm X → bw_G E (d + 5) mX12_missingOfAll 4 [some (.ref 50), some (.int (nI (bm_ma X N j))), some (.int (nI j))] [] w (bw_qi Q) := by
    intro n
    induction n with
    | zero =>
      intro j hj
      have e : j = bm_nm X := by omega
      subst e
      refine wfX12_missingOfAll_4 (br_t ?_ hq)
      rw [hX.2.1]; exact Int32.le_refl _
    | succ n ih =>
      intro j hj
      have IH := ih (j + 1) (by omega)
      refine wfX12_missingOfAll_4 (br_f ?_ ⟨fun v w3 => nI (bm_mc X N j (bm_cnt X j)) = v ∧ w = w3, ys_misOf hX hN hW hx (by omega) ⟨rfl, rfl⟩, ?_⟩)
      · rw [hX.2.1]; exact nI_ge (by omega) (by omega)
      · rintro _ _ ⟨rfl, rfl⟩
        rw [nI_add, nI_1]; exact IH
  exact wfX12_missingOfAll (key (bm_nm X) 0 (by omega))
theorem bm_fw_le (N : bm_N) : ∀ n, bm_fw N n ≤ n
  | 0 => Nat.le_refl _
  | n + 1 => by
    have := bm_fw_le N n
    rw [bm_fw]; split <;> omega
theorem xs_few (hX : bx_X X w) (hN : bx_N N w) (hW : bm_wfN X N) (hx : bm_wfX X) (h0 : bm_nn X ≠ 0) (hq : Q (nI (bm_fw N (bm_nn X - 1))) w) : bw_ri E (d + 2) mX11_nounOfFewestForms [.ref 0] w Q := by
  have h6 := hx.1
  have key : ∀ n j, j + 1 + n = bm_nn X → bw_G E (d + 2) mX11_nounOfFewestForms 4 [some (.ref 0), some (.int (nI (bm_fw N j))), some (.int (nI (j + 1)))] [] w (bw_qi Q) := by
    intro n
    induction n with
    | zero =>
      intro j hj
      have e : bm_nn X - 1 = j := by omega
      rw [e] at hq
      refine wfX11_nounOfFewestForms_4 (br_t ?_ hq)
      rw [hX.1]; exact nI_le (by omega) (by omega)
    | succ n ih =>
      intro j hj
      have IH := ih (j + 1) (by omega)
      have hle := bm_fw_le N j
      have hc := bm_wc_le (bm_frm N) (8 * bm_fw N j) 8
      have hc2 := bm_wc_le (bm_frm N) (8 * (j + 1)) 8
      refine wfX11_nounOfFewestForms_4 (br_f ?_ ⟨fun v w3 => nI (bm_wc (bm_frm N) (8 * (j + 1)) 8) = v ∧ w = w3, xs_ft hN hW (by omega) ⟨rfl, rfl⟩, ?_⟩)
      · rw [hX.1]; exact nI_ge (by omega) (by omega)
      · rintro _ _ ⟨rfl, rfl⟩
        refine ⟨fun v w3 => nI (bm_wc (bm_frm N) (8 * bm_fw N j) 8) = v ∧ w = w3, xs_ft hN hW (by omega) ⟨rfl, rfl⟩, ?_⟩
        rintro _ _ ⟨rfl, rfl⟩
        rw [nI_leI (by omega) (by omega), nI_1]
        rw [bm_fw] at IH
        refine ⟨fun z => ?_, fun z => ?_⟩
        · rw [if_pos z] at IH; exact IH
        · rw [if_neg z] at IH; exact IH
  exact wfX11_nounOfFewestForms (key (bm_nn X - 1) 0 (by omega))
theorem ys_few (hX : by_X X w) (hN : by_N N w) (hW : bm_wfN X N) (hx : bm_wfX X) (h0 : bm_nn X ≠ 0) (hq : Q (nI (bm_fw N (bm_nn X - 1))) w) : bw_ri E (d + 1) mX12_poorestNoun [.ref 50] w Q := by
  have h6 := hx.1
  have key : ∀ n j, j + 1 + n = bm_nn X → bw_G E (d + 1) mX12_poorestNoun 4 [some (.ref 50), some (.int (nI (bm_fw N j))), some (.int (nI (j + 1)))] [] w (bw_qi Q) := by
    intro n
    induction n with
    | zero =>
      intro j hj
      have e : bm_nn X - 1 = j := by omega
      rw [e] at hq
      refine wfX12_poorestNoun_4 (br_t ?_ hq)
      rw [hX.1]; exact nI_le (by omega) (by omega)
    | succ n ih =>
      intro j hj
      have IH := ih (j + 1) (by omega)
      have hle := bm_fw_le N j
      have hc := bm_wc_le (bm_frm N) (8 * bm_fw N j) 8
      have hc2 := bm_wc_le (bm_frm N) (8 * (j + 1)) 8
      refine wfX12_poorestNoun_4 (br_f ?_ ⟨fun v w3 => nI (bm_wc (bm_frm N) (8 * (j + 1)) 8) = v ∧ w = w3, ys_ft hN hW (by omega) ⟨rfl, rfl⟩, ?_⟩)
      · rw [hX.1]; exact nI_ge (by omega) (by omega)
      · rintro _ _ ⟨rfl, rfl⟩
        refine ⟨fun v w3 => nI (bm_wc (bm_frm N) (8 * bm_fw N j) 8) = v ∧ w = w3, ys_ft hN hW (by omega) ⟨rfl, rfl⟩, ?_⟩
        rintro _ _ ⟨rfl, rfl⟩
        rw [nI_leI (by omega) (by omega), nI_1]
        rw [bm_fw] at IH
        refine ⟨fun z => ?_, fun z => ?_⟩
        · rw [if_pos z] at IH; exact IH
        · rw [if_neg z] at IH; exact IH
  exact wfX12_poorestNoun (key (bm_nn X - 1) 0 (by omega))
theorem xs_filled (hN : bx_N N w) (hW : bm_wfN X N) (hx : bm_wfX X) (hq : Q (br_fh N 3) w) : bw_ri E (d + 1) mX11_filledHoles [.ref 0] w Q := by
  have key : ∀ n j, j + n = 3 → bw_G E (d + 1) mX11_filledHoles 4 [some (.ref 0), some (.int (br_fh N j)), some (.int (nI j))] [] w (bw_qi Q) := by
    intro n
    induction n with
    | zero =>
      intro j hj
      have e : j = 3 := by omega
      subst e
      exact wfX11_filledHoles_4 (br_t (by decide) hq)
    | succ n ih =>
      intro j hj
      have IH := ih (j + 1) (by omega)
      refine wfX11_filledHoles_4 (br_f (nI_ge (a := j) (b := 3) (by omega) (by decide)) ⟨xv_in (by omega), ?_⟩)
      rw [nI_1]
      rw [br_fh] at IH
      cases e : bm_hol N j with
      | none => rw [if_pos e] at IH; exact br_t (xv_none hN (by omega) e) IH
      | some p =>
        obtain ⟨n1, c1⟩ := p
        rw [if_neg (by rw [e]; simp)] at IH
        exact br_f (xv_some hN hW hx (by omega) e) IH
  exact wfX11_filledHoles (key 3 0 rfl)
theorem ys_filled (hN : by_N N w) (hW : bm_wfN X N) (hx : bm_wfX X) (hq : Q (br_fh N 3) w) : bw_ri E (d + 1) mX12_filled [.ref 50] w Q := by
  have key : ∀ n j, j + n = 3 → bw_G E (d + 1) mX12_filled 4 [some (.ref 50), some (.int (br_fh N j)), some (.int (nI j))] [] w (bw_qi Q) := by
    intro n
    induction n with
    | zero =>
      intro j hj
      have e : j = 3 := by omega
      subst e
      exact wfX12_filled_4 (br_t (by decide) hq)
    | succ n ih =>
      intro j hj
      have IH := ih (j + 1) (by omega)
      have h6 := hx.1
      refine wfX12_filled_4 (br_f (nI_ge (a := j) (b := 3) (by omega) (by decide)) ⟨yv_in (by omega), ?_⟩)
      rw [nI_1, Int32.or_zero]
      rw [br_fh] at IH
      cases e : bm_hol N j with
      | none => rw [if_pos e] at IH; exact br_t (yv_none hN (by omega) e) IH
      | some p =>
        obtain ⟨n1, c1⟩ := p
        rw [if_neg (by rw [e]; simp)] at IH
        rw [yv_noun hN (by omega) e]
        have := (hW.2 j n1 c1 (by omega) e).1
        exact br_f (nI_ne_m1 (by omega)) IH
  exact wfX12_filled (key 3 0 rfl)
end MOST
