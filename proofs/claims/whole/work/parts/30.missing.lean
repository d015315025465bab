/-- which default an item's form is by; 0 none -/
def bm_mis (N : bm_N) (q : Nat × Nat × Nat × List Nat) : Nat := if q.1 = 1 ∨ q.1 = 2 then (match bm_hol N q.2.1 with | none => 0 | some (n, c) => bm_def N n q.2.2.1 (bm_num c)) else 0
/-- missing among the first i items of a message -/
def bm_mc (X : bm_X) (N : bm_N) (m : Nat) : Nat → Nat
  | 0 => 0
  | i + 1 => bm_mc X N m i + if bm_mis N (bm_it X (8 * m + i)) = 0 then 0 else 1
def bm_mf (X : bm_X) (N : bm_N) (m : Nat) (a : Int32) : Nat → Nat → Option Nat
  | 0, _ => none
  | n + 1, i => if bm_mis N (bm_it X (8 * m + i)) ≠ 0 ∧ nI (bm_mc X N m i) = a then some i else bm_mf X N m a n (i + 1)
def br_miss (X : bm_X) (N : bm_N) (a0 a1 a2 : Int32) : Int32 := match bm_ix a0 (bm_nm X) with
  | none => -1
  | some m => if a1 = -1 then nI (bm_mc X N m (bm_cnt X m)) else match bm_mf X N m a1 (bm_cnt X m) 0 with
    | none => -1
    | some i => match bm_hol N (bm_it X (8 * m + i)).2.1 with
      | none => -1
      | some (n, c) => if a2 = 0 then nI n else if a2 = 1 then nI (bm_it X (8 * m + i)).2.2.1 else if a2 = 2 then nI (bm_num c) else if a2 = 3 then nI (bm_mis N (bm_it X (8 * m + i))) else -1
section MISS
variable {E : bw_E} {d : Nat} {w : bw_W} {X : bm_X} {N : bm_N} {Q : Int32 → bw_W → Prop}
theorem bm_mis_le (N : bm_N) (q : Nat × Nat × Nat × List Nat) : bm_mis N q ≤ 4 := by
  unfold bm_mis
  split
  · cases bm_hol N q.2.1 with
    | none => exact Nat.zero_le _
    | some p => exact bm_def_le _ _ _ _
  · exact Nat.zero_le _
theorem bm_mc_le (X : bm_X) (N : bm_N) (m : Nat) : ∀ i, bm_mc X N m i ≤ i
  | 0 => Nat.le_refl _
  | i + 1 => by
    have := bm_mc_le X N m i
    rw [bm_mc]
    split <;> omega
theorem bm_mf_some {m : Nat} {a : Int32} : ∀ n i j, bm_mf X N m a n i = some j → i ≤ j ∧ j < i + n ∧ bm_mis N (bm_it X (8 * m + j)) ≠ 0
  | 0, _, _, h => by cases h
  | n + 1, i, j, h => by
    rw [bm_mf] at h
    split at h
    · rename_i c; cases h; exact ⟨Nat.le_refl _, by omega, c.1⟩
    · have := bm_mf_some n (i + 1) j h
      exact ⟨by omega, by omega, this.2.2⟩
theorem xs_mis {Q : Bool → bw_W → Prop} (hX : bx_X X w) (hN : bx_N N w) (hW : bm_wfN X N) (hx : bm_wfX X) {k : Nat} {q : Nat × Nat × Nat × List Nat} (hk : k < 32) (hi : bx_it q k w) (ho : bm_itok q) (hq : Q (decide (bm_mis N q ≠ 0)) w) : bw_rb E (d + 2) mX10_isMissing [.ref 35, .int (nI k)] w Q := by
  have h6 := hx.1
  obtain ⟨s, h, b, u⟩ := q
  obtain ⟨o1, o2, o3, o4, o5⟩ := ho
  obtain ⟨i1, i2, i3, i4⟩ := hi
  dsimp only at *
  have kin : vp_in (nI k) 32 := bm_in hk (by decide)
  refine wfX10_isMissing ?_
  rw [nI_clamp (by omega), i1]
  refine ⟨kin, fun _ => kin, ?_⟩
  unfold bm_mis at hq
  dsimp only at hq
  by_cases hs : s = 1 ∨ s = 2
  · have hs0 : s ≠ 0 := by omega
    have hh := o3 hs0
    have hb := o4 (by omega)
    rw [if_pos hs] at hq
    have c1 : (nI (bm_sg s) = 35) ∨ (nI (bm_sg s) = 64) := by
      rcases hs with rfl | rfl
      · exact Or.inl rfl
      · exact Or.inr rfl
    refine br_nf c1 ⟨kin, ?_⟩
    rw [i3 hs0]
    refine ⟨xv_in hh, ?_⟩
    cases e : bm_hol N h with
    | none => rw [e] at hq; exact br_t (xv_none hN hh e) (by simpa using hq)
    | some p =>
      obtain ⟨n, c⟩ := p
      have g1 := (hW.2 h n c hh e).1
      rw [e] at hq
      dsimp only at hq
      have hD := bm_def_le N n b (bm_num c)
      refine br_f (xv_some hN hW hx hh e) ⟨fun v w7 => nI (bm_def N n b (bm_num c)) = v ∧ w = w7, ?_, ?_⟩
      · refine wfX10_defaultIn ?_
        rw [nI_clamp (by omega), i3 hs0, i4 hs0 (by omega), xv_noun hN hW hx hh e, xv_num hN hW hx hh e]
        exact ⟨kin, xv_in hh, kin, xv_in hh, _, xs_def (d := d) hN hW (by omega) hb (bm_num_lt c) ⟨rfl, rfl⟩, fun v w7 h => h⟩
      · rintro _ _ ⟨rfl, rfl⟩
        refine ⟨fun z => ?_, fun z => ?_⟩
        · have := (nI_eq (b := 0) (by omega) (by decide)).mp z
          simpa [this] using hq
        · have z2 : bm_def N n b (bm_num c) ≠ 0 := fun y => z (by rw [y]; rfl)
          rw [decide_eq_true z2] at hq
          exact hq
  · rw [if_neg hs] at hq
    have c1 : ¬ ((nI (bm_sg s) = 35) ∨ (nI (bm_sg s) = 64)) := by
      have : s = 0 ∨ s = 3 ∨ s = 4 ∨ s = 5 ∨ s = 6 := by omega
      rcases this with rfl | rfl | rfl | rfl | rfl <;> decide
    exact br_nt c1 hq
theorem xs_misOf (hX : bx_X X w) (hN : bx_N N w) (hW : bm_wfN X N) (hx : bm_wfX X) {m : Nat} (hm : m < bm_nm X) (hq : Q (nI (bm_mc X N m (bm_cnt X m))) w) : bw_ri E (d + 3) mX10_missingOf [.ref 35, .int (nI m)] w Q := by
  have hm4 := hx.2.1
  obtain ⟨hc1, hc8, hit⟩ := hx.2.2.2.2.1 m hm
  obtain ⟨g25, git⟩ := hX.2.2.2.2 m hm
  have key : ∀ n i, i + n = bm_cnt X m → bw_G E (d + 3) mX10_missingOf 10 [some (.ref 35), some (.int (nI m)), some (.int (nI (bm_mc X N m i))), some (.int (nI (8 * m))), some (.int (nI (8 * m + i)))] [] w (bw_qi Q) := by
    intro n
    induction n with
    | zero =>
      intro i h
      have e : i = bm_cnt X m := by omega
      subst e
      refine wfX10_missingOf_10 ⟨bm_in (by omega) (by decide), ?_⟩
      rw [nI_clamp (by omega), g25, nI_add]
      exact br_t (Int32.le_refl _) hq
    | succ n ih =>
      intro i h
      have hlt : i < bm_cnt X m := by omega
      have IH := ih (i + 1) (by omega)
      refine wfX10_missingOf_10 ⟨bm_in (by omega) (by decide), ?_⟩
      rw [nI_clamp (by omega), g25, nI_add, nI_1, nI_1, Nat.add_assoc]
      refine br_f (nI_ge (by omega) (by omega)) ⟨_, xs_mis (d := d) (Q := fun v w4 => decide (bm_mis N (bm_it X (8 * m + i)) ≠ 0) = v ∧ w = w4) hX hN hW hx (by omega) (git i hlt) (hit i hlt) ⟨rfl, rfl⟩, ?_⟩
      rintro _ _ ⟨rfl, rfl⟩
      rw [bm_mc] at IH
      refine ⟨fun z => ?_, fun z => ?_⟩
      · have z2 := of_decide_eq_false z
        rw [if_pos (Classical.byContradiction z2)] at IH
        exact IH
      · have z2 := of_decide_eq_true z
        rw [if_neg z2] at IH
        exact IH
  refine wfX10_missingOf ?_
  rw [nl_8, pk_mul, Nat.mul_comm m 8]
  exact key (bm_cnt X m) 0 (by omega)
theorem xs_misItem (hX : bx_X X w) (hN : bx_N N w) (hW : bm_wfN X N) (hx : bm_wfX X) {m : Nat} {a : Int32} (hm : m < bm_nm X) (hq : Q (match bm_mf X N m a (bm_cnt X m) 0 with | none => -1 | some i => nI (8 * m + i)) w) : bw_ri E (d + 3) mX10_missingItem [.ref 35, .int (nI m), .int a] w Q := by
  have hm4 := hx.2.1
  obtain ⟨hc1, hc8, hit⟩ := hx.2.2.2.2.1 m hm
  obtain ⟨g25, git⟩ := hX.2.2.2.2 m hm
  have key : ∀ n i, i + n = bm_cnt X m → Q (match bm_mf X N m a n i with | none => -1 | some i => nI (8 * m + i)) w → bw_G E (d + 3) mX10_missingItem 12 [some (.ref 35), some (.int (nI m)), some (.int a), some (.int (nI (bm_mc X N m i))), some (.int (nI (8 * m))), some (.int (nI (8 * m + i)))] [] w (bw_qi Q) := by
    intro n
    induction n with
    | zero =>
      intro i h hq
      have e : i = bm_cnt X m := by omega
      subst e
      refine wfX10_missingItem_12 ⟨bm_in (by omega) (by decide), ?_⟩
      rw [nI_clamp (by omega), g25, nI_add]
      exact br_t (Int32.le_refl _) hq
    | succ n ih =>
      intro i h hq
      have hlt : i < bm_cnt X m := by omega
      have IH := ih (i + 1) (by omega)
      refine wfX10_missingItem_12 ⟨bm_in (by omega) (by decide), ?_⟩
      rw [nI_clamp (by omega), g25, nI_add, nI_1, nI_1, Nat.add_assoc]
      refine br_f (nI_ge (by omega) (by omega)) ⟨_, xs_mis (d := d) (Q := fun v w4 => decide (bm_mis N (bm_it X (8 * m + i)) ≠ 0) = v ∧ w = w4) hX hN hW hx (by omega) (git i hlt) (hit i hlt) ⟨rfl, rfl⟩, ?_⟩
      rintro _ _ ⟨rfl, rfl⟩
      rw [bm_mc] at IH
      rw [bm_mf] at hq
      refine ⟨fun z => ?_, fun z => ⟨fun y => ?_, fun y => ?_⟩⟩
      · have z2 := of_decide_eq_false z
        rw [if_neg (fun q => z2 q.1)] at hq
        rw [if_pos (Classical.byContradiction z2)] at IH
        exact IH hq
      · have z2 := of_decide_eq_true z
        rw [if_neg (fun q => y q.2)] at hq
        rw [if_neg z2] at IH
        exact IH hq
      · have z2 := of_decide_eq_true z
        rw [if_pos ⟨z2, y⟩] at hq
        exact hq
  refine wfX10_missingItem ?_
  rw [nl_8, pk_mul, Nat.mul_comm m 8]
  exact key (bm_cnt X m) 0 (by omega) hq
theorem bm_mis_hol {q : Nat × Nat × Nat × List Nat} (h : bm_mis N q ≠ 0) : (q.1 = 1 ∨ q.1 = 2) ∧ ∃ n c, bm_hol N q.2.1 = some (n, c) ∧ bm_mis N q = bm_def N n q.2.2.1 (bm_num c) := by
  unfold bm_mis at h ⊢
  by_cases hs : q.1 = 1 ∨ q.1 = 2
  · rw [if_pos hs] at h ⊢
    refine ⟨hs, ?_⟩
    cases e : bm_hol N q.2.1 with
    | none => rw [e] at h; exact absurd rfl h
    | some p => exact ⟨p.1, p.2, rfl, rfl⟩
  · rw [if_neg hs] at h; exact absurd rfl h
theorem qx_miss {a0 a1 a2 : Int32} (hX : bx_X X w) (hN : bx_N N w) (hW : bm_wfN X N) (hx : bm_wfX X) (hq : Q (br_miss X N a0 a1 a2) w) : bw_ri E (d + 4) mX11_missing [.ref 0, .int a0, .int a1, .int a2] w Q := by
  have h4 := hx.2.1
  have h6 := hx.1
  refine wfX11_missing ?_
  rw [hX.2.1, bm_x_iff (by omega)]
  unfold br_miss at hq
  cases e0 : bm_ix a0 (bm_nm X) with
  | none => rw [e0] at hq; exact br_f (fun q => q rfl) hq
  | some m =>
    rw [e0] at hq
    obtain ⟨g0, rfl⟩ := bm_ix_some e0
    dsimp only at hq
    refine br_t (by simp) ⟨fun z => ?_, fun z => ?_⟩
    · rw [if_neg z] at hq
      refine ⟨fun v w3 => (match bm_mf X N m a1 (bm_cnt X m) 0 with | none => -1 | some i => nI (8 * m + i)) = v ∧ w = w3, xs_misItem (d := d) hX hN hW hx g0 ⟨rfl, rfl⟩, ?_⟩
      rintro _ _ ⟨rfl, rfl⟩
      cases ef : bm_mf X N m a1 (bm_cnt X m) 0 with
      | none => rw [ef] at hq; exact br_nf rfl hq
      | some i =>
        rw [ef] at hq
        dsimp only at hq ⊢
        obtain ⟨-, hi2, hi3⟩ := bm_mf_some _ _ _ ef
        obtain ⟨hc1, hc8, hit⟩ := hx.2.2.2.2.1 m g0
        obtain ⟨g25, git⟩ := hX.2.2.2.2 m g0
        have hok := hit i (by omega)
        have hi := git i (by omega)
        obtain ⟨hs, n, c, eh, em⟩ := bm_mis_hol hi3
        rw [eh, em] at hq
        dsimp only at hq
        have hs0 : (bm_it X (8 * m + i)).1 ≠ 0 := by omega
        have hh := hok.2.2.1 hs0
        have hb := hok.2.2.2.1 (by omega)
        have g1 := (hW.2 _ n c hh eh).1
        have kin : vp_in (nI (8 * m + i)) 32 := bm_in (by omega) (by decide)
        rw [nI_clamp (by omega), hi.2.2.1 hs0, hi.2.2.2 hs0 (by omega), xv_noun hN hW hx hh eh, xv_num hN hW hx hh eh]
        refine br_nt (nI_ne_m1 (by omega)) ⟨kin, kin, fun y => ⟨xv_in hh, ?_⟩, fun y => ?_, fun y => ⟨xv_in hh, ?_⟩, fun y => ⟨xv_in hh, xv_in hh, Q, xs_def (d := d + 3) hN hW (by omega) hb (bm_num_lt c) ?_, fun v w h => h⟩, fun y => ?_⟩
        · subst y; exact hq
        · subst y; exact hq
        · subst y; exact hq
        · subst y; exact hq
        · have b := bm_big (n := 3) (by decide) y
          rw [if_neg (show ¬ a2 = 0 from b 0 (by omega)), if_neg (show ¬ a2 = 1 from b 1 (by omega)), if_neg (show ¬ a2 = 2 from b 2 (by omega)), if_neg (show ¬ a2 = 3 from b 3 (by omega))] at hq
          exact hq
    · rw [if_pos z] at hq
      exact ⟨Q, xs_misOf (d := d) hX hN hW hx g0 hq, fun v w h => h⟩
theorem ys_misAt (hX : by_X X w) (hN : by_N N w) (hW : bm_wfN X N) (hx : bm_wfX X) {k : Nat} {q : Nat × Nat × Nat × List Nat} (hk : k < 32) (hi : by_it q k w) (ho : bm_itok q) (hq : Q (nI (bm_mis N q)) w) : bw_ri E (d + 3) mX12_missingAt [.ref 50, .int (nI k)] w Q := by
  have h6 := hx.1
  obtain ⟨s, h, b, u⟩ := q
  obtain ⟨o1, o2, o3, o4, o5⟩ := ho
  obtain ⟨i1, i2, i3, i4⟩ := hi
  dsimp only at *
  have k0 : vp_in (nI (3 * k)) 96 := bm_in (by omega) (by decide)
  have k1 : vp_in (nI (3 * k + 1)) 96 := bm_in (by omega) (by decide)
  have k2 : vp_in (nI (3 * k + 2)) 96 := bm_in (by omega) (by decide)
  refine wfX12_missingAt ?_
  rw [show (3 : Int32) = nI 3 from rfl, pk_mul, show nI (3 * k) + 1 = nI (3 * k + 1) from nI_1 _, show nI (3 * k) + 2 = nI (3 * k + 2) from nI_add _ 2, nI_clamp (n := 3 * k) (by omega), nI_clamp (n := 3 * k + 1) (by omega), nI_clamp (n := 3 * k + 2) (by omega), i1]
  refine ⟨k0, fun _ => k0, ?_⟩
  unfold bm_mis at hq
  dsimp only at hq
  by_cases hs : s = 1 ∨ s = 2
  · have hs0 : s ≠ 0 := by omega
    have hh := o3 hs0
    have hb := o4 (by omega)
    rw [if_pos hs] at hq
    have c1 : (nI s = 1) ∨ (nI s = 2) := by
      rcases hs with rfl | rfl
      · exact Or.inl rfl
      · exact Or.inr rfl
    refine br_nf c1 ⟨k1, ?_⟩
    rw [i3 hs0, i4 hs0 (by omega)]
    refine ⟨yv_in hh, ?_⟩
    cases e : bm_hol N h with
    | none => rw [e] at hq; exact br_nf (yv_none hN hh e) hq
    | some p =>
      obtain ⟨n, c⟩ := p
      have g1 := (hW.2 h n c hh e).1
      rw [e] at hq
      dsimp only at hq
      rw [yv_noun hN hh e, yv_num hN hW hh e]
      exact br_nt (nI_ne_m1 (by omega)) ⟨k1, yv_in hh, k2, yv_in2 hh, Q, ys_def (d := d) hN hW (by omega) hb (bm_num_lt c) hq, fun v w h => h⟩
  · rw [if_neg hs] at hq
    have c1 : ¬ ((nI s = 1) ∨ (nI s = 2)) := by
      have : s = 0 ∨ s = 3 ∨ s = 4 ∨ s = 5 ∨ s = 6 := by omega
      rcases this with rfl | rfl | rfl | rfl | rfl <;> decide
    exact br_nt c1 hq
theorem ys_misOf (hX : by_X X w) (hN : by_N N w) (hW : bm_wfN X N) (hx : bm_wfX X) {m : Nat} (hm : m < bm_nm X) (hq : Q (nI (bm_mc X N m (bm_cnt X m))) w) : bw_ri E (d + 4) mX12_missingOf [.ref 50, .int (nI m)] w Q := by
  have hm4 := hx.2.1
  obtain ⟨hc1, hc8, hit⟩ := hx.2.2.2.2.1 m hm
  obtain ⟨g25, git⟩ := hX.2.2.2.2 m hm
  have key : ∀ n i, i + n = bm_cnt X m → bw_G E (d + 4) mX12_missingOf 4 [some (.ref 50), some (.int (nI m)), some (.int (nI (bm_mc X N m i))), some (.int (nI i))] [] w (bw_qi Q) := by
    intro n
    induction n with
    | zero =>
      intro i h
      have e : i = bm_cnt X m := by omega
      subst e
      refine wfX12_missingOf_4 ⟨bm_in (by omega) (by decide), ?_⟩
      rw [nI_clamp (by omega), g25]
      exact br_t (Int32.le_refl _) hq
    | succ n ih =>
      intro i h
      have hlt : i < bm_cnt X m := by omega
      have IH := ih (i + 1) (by omega)
      have hle := bm_mis_le N (bm_it X (8 * m + i))
      refine wfX12_missingOf_4 ⟨bm_in (by omega) (by decide), ?_⟩
      rw [nI_clamp (by omega), g25, show (8 : Int32) = nI 8 from rfl, pk_mul, nI_add, nI_1, nI_1, Int32.add_zero]
      refine br_f (nI_ge (by omega) (by omega)) ⟨fun v w4 => nI (bm_mis N (bm_it X (8 * m + i))) = v ∧ w = w4, ys_misAt (d := d) hX hN hW hx (by omega) (git i hlt) (hit i hlt) ⟨rfl, rfl⟩, ?_⟩
      rintro _ _ ⟨rfl, rfl⟩
      have e0 : nI (bm_mis N (bm_it X (8 * m + i))) ≤ 0 ↔ bm_mis N (bm_it X (8 * m + i)) ≤ 0 := nI_leI (b := 0) (by omega) (by decide)
      rw [bm_mc] at IH
      refine ⟨fun z => ?_, fun z => ?_⟩
      · rw [if_pos (by have := e0.mp z; omega)] at IH; exact IH
      · rw [if_neg (fun y => z (e0.mpr (by omega)))] at IH; exact IH
  exact wfX12_missingOf (key (bm_cnt X m) 0 (by omega))
theorem qm_miss {a0 a1 a2 : Int32} (hX : by_X X w) (hN : by_N N w) (hW : bm_wfN X N) (hx : bm_wfX X) (hq : Q (br_miss X N a0 a1 a2) w) : bw_ri E (d + 5) mX12_missing [.ref 50, .int a0, .int a1, .int a2] w Q := by
  have h4 := hx.2.1
  have h6 := hx.1
  refine wfX12_missing ?_
  rw [bm_mm_iff hX hx]
  unfold br_miss at hq
  cases e0 : bm_ix a0 (bm_nm X) with
  | none => rw [e0] at hq; exact br_f (fun q => q rfl) hq
  | some m =>
    rw [e0] at hq
    obtain ⟨g0, rfl⟩ := bm_ix_some e0
    dsimp only at hq
    obtain ⟨hc1, hc8, hit⟩ := hx.2.2.2.2.1 m g0
    obtain ⟨g25, git⟩ := hX.2.2.2.2 m g0
    refine br_t (by simp) ⟨fun z => ?_, fun z => ?_⟩
    · rw [if_neg z] at hq
      have key : ∀ n i, i + n = bm_cnt X m → Q (match bm_mf X N m a1 n i with
          | none => -1
          | some i => match bm_hol N (bm_it X (8 * m + i)).2.1 with
            | none => -1
            | some (n, c) => if a2 = 0 then nI n else if a2 = 1 then nI (bm_it X (8 * m + i)).2.2.1 else if a2 = 2 then nI (bm_num c) else if a2 = 3 then nI (bm_mis N (bm_it X (8 * m + i))) else -1) w → bw_G E (d + 5) mX12_missing 30 [some (.ref 50), some (.int (nI m)), some (.int a1), some (.int a2), some (.int (nI (bm_mc X N m i))), some (.int (nI (8 * m + i))), none, none] [] w (bw_qi Q) := by
        intro n
        induction n with
        | zero =>
          intro i h hq
          have e : i = bm_cnt X m := by omega
          subst e
          refine wfX12_missing_30 ⟨bm_in (by omega) (by decide), ?_⟩
          rw [nI_clamp (n := m) (by omega), g25, show (8 : Int32) = nI 8 from rfl, pk_mul, nI_add]
          exact br_t (Int32.le_refl _) hq
        | succ n ih =>
          intro i h hq
          have hlt : i < bm_cnt X m := by omega
          have IH := ih (i + 1) (by omega)
          have hle := bm_mis_le N (bm_it X (8 * m + i))
          have hi := git i hlt
          have hok := hit i hlt
          refine wfX12_missing_30 ⟨bm_in (by omega) (by decide), ?_⟩
          rw [nI_clamp (n := m) (by omega), g25, show (8 : Int32) = nI 8 from rfl, pk_mul, nI_add]
          refine br_f (nI_ge (by omega) (by omega)) ?_
          rw [show ((¬ (a2 < 0)) ∧ (¬ (3 < a2))) = ((¬ (a2 < 0)) ∧ (¬ (nI 3 < a2))) from rfl, bm_k_iff (n := 4) (k := 3) rfl (by decide)]
          cases e2 : bm_ix a2 4 with
          | none =>
            refine br_nt (fun q => q rfl) ?_
            have b : ∀ k, k < 4 → ¬ a2 = nI k := fun k hk e => by rw [e, bm_ix_nI hk (by decide)] at e2; cases e2
            cases ef : bm_mf X N m a1 (n + 1) i with
            | none => rw [ef] at hq; exact hq
            | some j =>
              rw [ef] at hq
              dsimp only at hq
              cases eh : bm_hol N (bm_it X (8 * m + j)).2.1 with
              | none => rw [eh] at hq; exact hq
              | some p =>
                rw [eh] at hq
                dsimp only at hq
                rw [if_neg (show ¬ a2 = 0 from b 0 (by omega)), if_neg (show ¬ a2 = 1 from b 1 (by omega)), if_neg (show ¬ a2 = 2 from b 2 (by omega)), if_neg (show ¬ a2 = 3 from b 3 (by omega))] at hq
                exact hq
          | some t =>
            obtain ⟨gt, rfl⟩ := bm_ix_some e2
            refine br_nf (by simp) ⟨fun v w4 => nI (bm_mis N (bm_it X (8 * m + i))) = v ∧ w = w4, ys_misAt (d := d + 1) hX hN hW hx (by omega) hi hok ⟨rfl, rfl⟩, ?_⟩
            rintro _ _ ⟨rfl, rfl⟩
            have e0 : nI (bm_mis N (bm_it X (8 * m + i))) ≤ 0 ↔ bm_mis N (bm_it X (8 * m + i)) ≤ 0 := nI_leI (b := 0) (by omega) (by decide)
            rw [bm_mc] at IH
            rw [bm_mf] at hq
            rw [nI_1, nI_1, Nat.add_assoc, Int32.add_zero]
            refine ⟨fun z => br_t z ?_, fun z => ⟨fun y => br_f z ?_, fun y => ?_⟩⟩
            · have z2 : bm_mis N (bm_it X (8 * m + i)) = 0 := by have := e0.mp z; omega
              rw [if_neg (fun q => q.1 z2)] at hq
              rw [if_pos z2] at IH
              exact IH hq
            · have z2 : ¬ bm_mis N (bm_it X (8 * m + i)) = 0 := fun y => z (e0.mpr (by omega))
              rw [if_neg (fun q => y q.2)] at hq
              rw [if_neg z2] at IH
              exact IH hq
            · have z2 : ¬ bm_mis N (bm_it X (8 * m + i)) = 0 := fun y => z (e0.mpr (by omega))
              rw [if_pos ⟨z2, y⟩] at hq
              dsimp only at hq
              obtain ⟨hs, n1, c, eh, em⟩ := bm_mis_hol z2
              rw [eh] at hq
              dsimp only at hq
              have hs0 : (bm_it X (8 * m + i)).1 ≠ 0 := by omega
              have hh := hok.2.2.1 hs0
              rw [show (3 : Int32) = nI 3 from rfl, pk_mul, show nI (3 * (8 * m + i)) + 1 = nI (3 * (8 * m + i) + 1) from nI_1 _, show nI (3 * (8 * m + i)) + 2 = nI (3 * (8 * m + i) + 2) from nI_add _ 2, nI_clamp (n := 3 * (8 * m + i) + 1) (by omega), nI_clamp (n := 3 * (8 * m + i) + 2) (by omega), hi.2.2.1 hs0, hi.2.2.2 hs0 (by omega), yv_noun hN hh eh, yv_num hN hW hh eh]
              refine ⟨bm_in (by omega) (by decide), ?_⟩
              have ht : t = 0 ∨ t = 1 ∨ t = 2 ∨ t = 3 := by omega
              rcases ht with rfl | rfl | rfl | rfl
              · exact br_nf rfl ⟨yv_in hh, hq⟩
              · exact br_nt (by decide) (br_nf rfl ⟨bm_in (by omega) (by decide), hq⟩)
              · exact br_nt (by decide) (br_nt (by decide) (br_nf rfl ⟨yv_in2 hh, hq⟩))
              · exact br_nt (by decide) (br_nt (by decide) (br_nt (by decide) hq))
      have := key (bm_cnt X m) 0 (by omega) hq
      rw [show (8 : Int32) = nI 8 from rfl, pk_mul]
      exact this
    · rw [if_pos z] at hq
      exact ⟨Q, ys_misOf (d := d) hX hN hW hx g0 hq, fun v w h => h⟩
end MISS
