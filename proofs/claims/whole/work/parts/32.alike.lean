/-- the g-th of a noun's eight forms, with defaults -/
def bm_f8 (X : bm_X) (N : bm_N) (n g : Nat) : List Nat := bm_form X N n (g / 2) (g % 2)
def bm_sb (P : Nat → Bool) : Nat → Nat
  | 0 => 0
  | g + 1 => bm_sb P g + if P g then 2 ^ g else 0
/-- forms among the first i that stand there first -/
def bm_al (X : bm_X) (N : bm_N) (n : Nat) : Nat → Nat
  | 0 => 0
  | i + 1 => bm_al X N n i + if bm_sb (fun g => decide (bm_f8 X N n g = bm_f8 X N n i)) i = 0 then 1 else 0
def br_alike (X : bm_X) (N : bm_N) (a0 : Int32) : Int32 := match bm_ix a0 (bm_nn X) with
  | none => -1
  | some n => nI (bm_al X N n 8)
theorem bm_sb_lt (P : Nat → Bool) : ∀ n, bm_sb P n < 2 ^ n
  | 0 => Nat.one_pos
  | n + 1 => by
    have := bm_sb_lt P n
    rw [bm_sb, Nat.pow_succ]
    split <;> omega
theorem bm_sb_mod (P : Nat → Bool) (i : Nat) : ∀ n, i ≤ n → bm_sb P n % 2 ^ i = bm_sb P i
  | 0, h => by
    have : i = 0 := by omega
    subst this
    rfl
  | n + 1, h => by
    by_cases e : i = n + 1
    · subst e
      exact Nat.mod_eq_of_lt (bm_sb_lt P (n + 1))
    · have ih := bm_sb_mod P i n (by omega)
      rw [bm_sb]
      split
      · obtain ⟨k, hk⟩ := Nat.exists_eq_add_of_le (show i ≤ n by omega)
        rw [hk, Nat.pow_add, Nat.add_mul_mod_self_left, ← hk]
        exact ih
      · rw [Nat.add_zero]; exact ih
theorem bm_sb0 (P : Nat → Bool) : ∀ n, bm_sb P n = 0 ↔ ∀ g, g < n → P g = false
  | 0 => ⟨fun _ g hg => absurd hg (Nat.not_lt_zero g), fun _ => rfl⟩
  | n + 1 => by
    have ih := bm_sb0 P n
    have hp : 0 < 2 ^ n := Nat.two_pow_pos n
    rw [bm_sb]
    constructor
    · intro q g hg
      by_cases e : g = n
      · subst e
        cases hP : P g with
        | false => rfl
        | true => rw [hP, if_pos rfl] at q; omega
      · exact ih.mp (by omega) g (by omega)
    · intro q
      rw [ih.mpr (fun g hg => q g (by omega)), q n (by omega)]
      rfl
section ALIKE
variable {E : bw_E} {d : Nat} {w : bw_W} {X : bm_X} {N : bm_N} {Q : Int32 → bw_W → Prop}
theorem bm_f8_ok (hW : bm_wfN X N) (hx : bm_wfX X) {n g : Nat} (hn : n < bm_nn X) (hg : g < 8) : bm_ok (bm_f8 X N n g) := bm_form_ok hW hx hn (by omega) (by omega)
theorem xs_f8 {Q : Int64 → bw_W → Prop} (hX : bx_X X w) (hN : bx_N N w) (hW : bm_wfN X N) (hx : bm_wfX X) {n g : Nat} (hn : n < bm_nn X) (hg : g < 8) (hq : Q (bx_w (bm_f8 X N n g)) w) : bw_rl E (d + 2) mX10_formAt [.ref 35, .int (nI n), .int (nI g)] w Q := by
  refine wfX10_formAt ?_
  rw [show (2 : Int32) = nI 2 from rfl, pk_rem (by omega) (by decide) (by decide), pk_div (by omega) (by decide) (by decide)]
  exact ⟨Q, xs_form (d := d) hX hN hW hx hn (by omega) (by omega) hq, fun v w h => h⟩
theorem ys_f8 {Q : Int64 → bw_W → Prop} (hX : by_X X w) (hN : by_N N w) (hW : bm_wfN X N) (hx : bm_wfX X) {n g : Nat} (hn : n < bm_nn X) (hg : g < 8) (hq : Q (by_w (bm_f8 X N n g)) w) : bw_rl E (d + 4) mX12_formBy [.ref 50, .int (nI n), .int (nI g)] w Q := by
  refine wfX12_formBy ?_
  rw [show (2 : Int32) = nI 2 from rfl, pk_rem (by omega) (by decide) (by decide), pk_div (by omega) (by decide) (by decide)]
  exact ⟨Q, ys_form (d := d) hX hN hW hx hn (by omega) (by omega) hq, fun v w h => h⟩
theorem bm_b8 : ∀ c, c < 8 → (1 : Int32) <<< (nI c &&& 31) = nI (2 ^ c) := by decide
theorem bm_or8 {a i : Nat} (h : a < 2 ^ i) : nI a ||| nI (2 ^ i) = nI (a + 2 ^ i) := by
  rw [Int32.or_comm]
  have := fa_or_sum (a := a) (k := i) 1 h
  rw [Nat.mul_one] at this
  rw [this, Nat.add_comm]
theorem xs_slots (hX : bx_X X w) (hN : bx_N N w) (hW : bm_wfN X N) (hx : bm_wfX X) {n : Nat} {u : List Nat} (hn : n < bm_nn X) (hu : bm_ok u) (hq : Q (nI (bm_sb (fun g => decide (bm_f8 X N n g = u)) 8)) w) : bw_ri E (d + 3) mX11_slotsOf [.ref 0, .int (nI n), .long (bx_w u)] w Q := by
  have key : ∀ j i, i + j = 8 → bw_G E (d + 3) mX11_slotsOf 6 [some (.ref 0), some (.int (nI n)), some (.long (bx_w u)), none, some (.int (nI (bm_sb (fun g => decide (bm_f8 X N n g = u)) i))), some (.int (nI i))] [] w (bw_qi Q) := by
    intro j
    induction j with
    | zero =>
      intro i h
      have e : i = 8 := by omega
      subst e
      exact wfX11_slotsOf_6 (br_t (by decide) hq)
    | succ j ih =>
      intro i h
      have IH := ih (i + 1) (by omega)
      have hlt := bm_sb_lt (fun g => decide (bm_f8 X N n g = u)) i
      refine wfX11_slotsOf_6 (br_f (nI_ge (a := i) (b := 8) (by omega) (by decide)) ⟨fun v w3 => bx_w (bm_f8 X N n i) = v ∧ w = w3, xs_f8 (d := d) hX hN hW hx hn (by omega) ⟨rfl, rfl⟩, ?_⟩)
      rintro _ _ ⟨rfl, rfl⟩
      rw [nI_1, bm_b8 i (by omega), bm_or8 hlt, bx_w_eq (bm_f8_ok hW hx hn (by omega)) hu]
      rw [bm_sb] at IH
      refine ⟨fun z => ?_, fun z => ?_⟩
      · rw [decide_eq_false z] at IH; exact IH
      · rw [decide_eq_true z] at IH; exact IH
  exact wfX11_slotsOf (key 8 0 (by omega))
theorem qx_alike {a0 : Int32} (hX : bx_X X w) (hN : bx_N N w) (hW : bm_wfN X N) (hx : bm_wfX X) (hq : Q (br_alike X N a0) w) : bw_ri E (d + 4) mX11_alike [.ref 0, .int a0] w Q := by
  have h6 := hx.1
  refine wfX11_alike ?_
  rw [hX.1, bm_x_iff (by omega)]
  unfold br_alike at hq
  cases e0 : bm_ix a0 (bm_nn X) with
  | none => rw [e0] at hq; exact br_f (fun q => q rfl) hq
  | some n =>
    rw [e0] at hq
    obtain ⟨g0, rfl⟩ := bm_ix_some e0
    refine br_t (by simp) ?_
    have key : ∀ j i, i + j = 8 → bw_G E (d + 4) mX11_alike 14 [some (.ref 0), some (.int (nI n)), some (.int (nI (bm_al X N n i))), some (.int (nI i)), none] [] w (bw_qi Q) := by
      intro j
      induction j with
      | zero =>
        intro i h
        have e : i = 8 := by omega
        subst e
        exact wfX11_alike_14 (br_t (by decide) hq)
      | succ j ih =>
        intro i h
        have IH := ih (i + 1) (by omega)
        have hok := bm_f8_ok hW hx g0 (show i < 8 by omega)
        refine wfX11_alike_14 (br_f (nI_ge (a := i) (b := 8) (by omega) (by decide)) ⟨fun v w3 => bx_w (bm_f8 X N n i) = v ∧ w = w3, xs_f8 (d := d + 1) hX hN hW hx g0 (by omega) ⟨rfl, rfl⟩, ?_⟩)
        rintro _ _ ⟨rfl, rfl⟩
        refine ⟨fun v w3 => nI (bm_sb (fun g => decide (bm_f8 X N n g = bm_f8 X N n i)) 8) = v ∧ w = w3, xs_slots (d := d) hX hN hW hx g0 hok ⟨rfl, rfl⟩, ?_⟩
        rintro _ _ ⟨rfl, rfl⟩
        have hlt := bm_sb_lt (fun g => decide (bm_f8 X N n g = bm_f8 X N n i)) i
        have h28 : 2 ^ i ≤ 2 ^ 8 := Nat.pow_le_pow_right (by decide) (by omega)
        rw [nI_1, nI_1, bm_b8 i (by omega), show (1 : Int32) = nI 1 from rfl, pk_sub (Nat.two_pow_pos i), fa_mask, bm_sb_mod _ i 8 (by omega)]
        have ez : nI (bm_sb (fun g => decide (bm_f8 X N n g = bm_f8 X N n i)) i) = 0 ↔ bm_sb (fun g => decide (bm_f8 X N n g = bm_f8 X N n i)) i = 0 := nI_eq (b := 0) (by omega) (by decide)
        rw [bm_al] at IH
        refine ⟨fun z => ?_, fun z => ?_⟩
        · rw [if_neg (fun q => z (ez.mpr q))] at IH; exact IH
        · rw [if_pos (ez.mp z)] at IH; exact IH
    exact key 8 0 (by omega)
theorem qm_alike {a0 : Int32} (hX : by_X X w) (hN : by_N N w) (hW : bm_wfN X N) (hx : bm_wfX X) (hq : Q (br_alike X N a0) w) : bw_ri E (d + 5) mX12_alike [.ref 50, .int a0] w Q := by
  have h6 := hx.1
  refine wfX12_alike ?_
  rw [hX.1, bm_m_iff (by omega)]
  unfold br_alike at hq
  cases e0 : bm_ix a0 (bm_nn X) with
  | none => rw [e0] at hq; exact br_f (fun q => q rfl) hq
  | some n =>
    rw [e0] at hq
    obtain ⟨g0, rfl⟩ := bm_ix_some e0
    refine br_t (by simp) ?_
    have key : ∀ j i, i + j = 8 → bw_G E (d + 5) mX12_alike 14 [some (.ref 50), some (.int (nI n)), some (.int (nI (bm_al X N n i))), some (.int (nI i)), none, none] [] w (bw_qi Q) := by
      intro j
      induction j with
      | zero =>
        intro i h
        have e : i = 8 := by omega
        subst e
        exact wfX12_alike_14 (br_t (by decide) hq)
      | succ j ih =>
        intro i h
        have IH := ih (i + 1) (by omega)
        have hok := bm_f8_ok hW hx g0 (show i < 8 by omega)
        refine wfX12_alike_14 (br_f (nI_ge (a := i) (b := 8) (by omega) (by decide)) ?_)
        rw [bm_al] at IH
        have inner : ∀ j2 g, g + j2 = i → bw_G E (d + 5) mX12_alike 26 [some (.ref 50), some (.int (nI n)), some (.int (nI (bm_al X N n i))), some (.int (nI i)), some (.int (if bm_sb (fun g => decide (bm_f8 X N n g = bm_f8 X N n i)) g = 0 then 1 else 0)), some (.int (nI g))] [] w (bw_qi Q) := by
          intro j2
          induction j2 with
          | zero =>
            intro g hg
            have e : g = i := by omega
            subst e
            refine wfX12_alike_26 (br_t (Int32.le_refl _) ?_)
            rw [nI_1, nI_1, Int32.add_zero]
            by_cases hz : bm_sb (fun g_1 => decide (bm_f8 X N n g_1 = bm_f8 X N n g)) g = 0
            · rw [if_pos hz] at IH ⊢; exact br_f (by decide) IH
            · rw [if_neg hz] at IH ⊢; exact br_t rfl IH
          | succ j2 ih2 =>
            intro g hg
            have IH2 := ih2 (g + 1) (by omega)
            have hp : 0 < 2 ^ g := Nat.two_pow_pos g
            refine wfX12_alike_26 (br_f (nI_ge (by omega) (by omega)) ?_)
            rw [bm_sb] at IH2
            rw [nI_1]
            by_cases hz : bm_sb (fun g_1 => decide (bm_f8 X N n g_1 = bm_f8 X N n i)) g = 0
            · rw [if_pos hz]
              refine br_f (by decide) ⟨fun v w3 => by_w (bm_f8 X N n i) = v ∧ w = w3, ys_f8 (d := d) hX hN hW hx g0 (by omega) ⟨rfl, rfl⟩, ?_⟩
              rintro _ _ ⟨rfl, rfl⟩
              refine ⟨fun v w3 => by_w (bm_f8 X N n g) = v ∧ w = w3, ys_f8 (d := d) hX hN hW hx g0 (by omega) ⟨rfl, rfl⟩, ?_⟩
              rintro _ _ ⟨rfl, rfl⟩
              rw [by_w_eq hok (bm_f8_ok hW hx g0 (by omega))]
              rw [hz, Nat.zero_add] at IH2
              refine ⟨fun z => ?_, fun z => ?_⟩
              · rw [if_neg (by simp [z.symm])] at IH2; exact IH2
              · have z' : ¬ bm_f8 X N n g = bm_f8 X N n i := fun q => z q.symm
                rw [if_pos (by simp [z'])] at IH2; exact IH2
            · rw [if_neg hz]
              rw [if_neg (by omega)] at IH2
              exact br_t rfl IH2
        exact inner i 0 (by omega)
    exact key 8 0 (by omega)
end ALIKE
