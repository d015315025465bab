/-- the cases (bits) in which the first n items of a message ask forms of the nouns in these holes -/
def bm_cf (X : bm_X) (m : Nat) (H : Nat → Bool) : Nat → Nat
  | 0 => 0
  | i + 1 => if ((bm_it X (8 * m + i)).1 = 1 ∨ (bm_it X (8 * m + i)).1 = 2) ∧ H (bm_it X (8 * m + i)).2.1 = true then bm_cf X m H i ||| 2 ^ (bm_it X (8 * m + i)).2.2.1 else bm_cf X m H i
/-- forms of a noun that are not told among the first i, in the cases a -/
def bm_lk (N : bm_N) (n a : Nat) : Nat → Nat
  | 0 => 0
  | i + 1 => bm_lk N n a i + if a / 2 ^ (i / 2) % 2 = 1 ∧ bm_frm N (8 * n + i) = [] then 1 else 0
def bm_nd (N : bm_N) (a : Nat) : Nat → Nat
  | 0 => 0
  | n + 1 => bm_nd N a n + bm_lk N n a 8
def br_fitF (N : bm_N) (a : Nat) : Nat → Int32
  | 0 => 0
  | n + 1 => if bm_lk N n a 8 = 0 then br_fitF N a n ||| bm_bi n else br_fitF N a n
def br_fits (X : bm_X) (N : bm_N) (a0 a1 : Int32) : Int32 := match bm_ix a0 (bm_nm X), bm_ix a1 3 with
  | some m, some h => br_fitF N (bm_cf X m (fun k => k == h) (bm_cnt X m)) (bm_nn X)
  | _, _ => -1
def br_needs (X : bm_X) (N : bm_N) (a0 : Int32) : Int32 := match bm_ix a0 (bm_nm X) with
  | some m => nI (bm_nd N (bm_cf X m (fun _ => true) (bm_cnt X m)) (bm_nn X))
  | none => -1
section FITS
variable {E : bw_E} {d : Nat} {w : bw_W} {X : bm_X} {N : bm_N} {Q : Int32 → bw_W → Prop}
theorem bm_cf_lt (hx : bm_wfX X) {m : Nat} (hm : m < bm_nm X) (H : Nat → Bool) : ∀ n, n ≤ bm_cnt X m → bm_cf X m H n < 2 ^ 4
  | 0, _ => (by decide : 0 < 2 ^ 4)
  | i + 1, h => by
    have ih := bm_cf_lt hx hm H i (by omega)
    rw [bm_cf]
    split
    · rename_i c
      have hb := ((hx.2.2.2.2.1 m hm).2.2 i (by omega)).2.2.2.1 (by omega)
      exact Nat.or_lt_two_pow ih (Nat.pow_lt_pow_right (by decide) hb)
    · exact ih
theorem bm_sh4 : ∀ a, a < 16 → ∀ c, c < 4 → (nI a >>> (nI c &&& 31)) &&& 1 = nI (a / 2 ^ c % 2) := by decide +kernel
theorem bm_b4 : ∀ c, c < 4 → (1 : Int32) <<< (nI c &&& 31) = nI (2 ^ c) := by decide
theorem bm_lk_le (N : bm_N) (n a : Nat) : ∀ i, bm_lk N n a i ≤ i
  | 0 => Nat.le_refl _
  | i + 1 => by
    have := bm_lk_le N n a i
    rw [bm_lk]
    split <;> omega
theorem bm_nd_le (N : bm_N) (a : Nat) : ∀ n, bm_nd N a n ≤ 8 * n
  | 0 => Nat.le_refl _
  | n + 1 => by
    have := bm_nd_le N a n
    have := bm_lk_le N n a 8
    rw [bm_nd]
    omega
theorem xs_cases (hX : bx_X X w) (hx : bm_wfX X) {m : Nat} {a : Int32} {H : Nat → Bool} (hm : m < bm_nm X) (ha : ∀ h, h < 3 → ((a >>> (nI h &&& 31)) &&& 1 = 0 ↔ H h = false)) (hq : Q (nI (bm_cf X m H (bm_cnt X m))) w) : bw_ri E (d + 1) mX3_casesAskedBy [.ref 18, .int (nI m), .int a] w Q := by
  have hm4 := hx.2.1
  obtain ⟨hc1, hc8, hit⟩ := hx.2.2.2.2.1 m hm
  obtain ⟨g25, git⟩ := hX.2.2.2.2 m hm
  have key : ∀ n i, i + n = bm_cnt X m → bw_G E (d + 1) mX3_casesAskedBy 12 [some (.ref 18), some (.int (nI m)), some (.int a), some (.int (nI (bm_cf X m H i))), some (.int (nI (8 * m))), some (.int (nI (8 * m + i)))] [] w (bw_qi Q) := by
    intro n
    induction n with
    | zero =>
      intro i h
      have e : i = bm_cnt X m := by omega
      subst e
      refine wfX3_casesAskedBy_12 ⟨bm_in (by omega) (by decide), ?_⟩
      rw [nI_clamp (by omega), g25, nI_add]
      exact br_t (Int32.le_refl _) hq
    | succ n ih =>
      intro i h
      have hlt : i < bm_cnt X m := by omega
      have hok := hit i hlt
      obtain ⟨i1, i2, i3, i4⟩ := git i hlt
      have IH := ih (i + 1) (by omega)
      have kin : vp_in (nI (8 * m + i)) 32 := bm_in (by omega) (by decide)
      refine wfX3_casesAskedBy_12 ⟨bm_in (by omega) (by decide), ?_⟩
      rw [nI_clamp (n := m) (by omega), g25, nI_add, nI_clamp (n := 8 * m + i) (by omega), nI_1, Nat.add_assoc, i1]
      refine br_f (nI_ge (by omega) (by omega)) ⟨kin, fun _ => kin, ?_⟩
      rw [bm_cf] at IH
      have hsg : ((nI (bm_sg (bm_it X (8 * m + i)).1) = 35) ∨ (nI (bm_sg (bm_it X (8 * m + i)).1) = 64)) ↔ ((bm_it X (8 * m + i)).1 = 1 ∨ (bm_it X (8 * m + i)).1 = 2) := by
        have h6 := hok.1
        generalize (bm_it X (8 * m + i)).1 = s at h6
        have : s = 0 ∨ s = 1 ∨ s = 2 ∨ s = 3 ∨ s = 4 ∨ s = 5 ∨ s = 6 := by omega
        rcases this with rfl | rfl | rfl | rfl | rfl | rfl | rfl <;> decide
      rw [hsg]
      by_cases hs : (bm_it X (8 * m + i)).1 = 1 ∨ (bm_it X (8 * m + i)).1 = 2
      · have hs0 : (bm_it X (8 * m + i)).1 ≠ 0 := by omega
        have hh := hok.2.2.1 hs0
        have hb := hok.2.2.2.1 (by omega)
        refine br_nf hs ⟨kin, ?_⟩
        rw [i3 hs0, i4 hs0 (by omega), ha _ hh]
        refine ⟨fun z => ?_, fun z => ⟨kin, ?_⟩⟩
        · rw [if_neg (fun q => by rw [z] at q; exact absurd q.2 (by decide))] at IH; exact IH
        · rw [if_pos ⟨hs, by cases hb2 : H (bm_it X (8 * m + i)).2.1; exact absurd hb2 z; rfl⟩] at IH
          rw [bm_b4 _ hb, fa_or]
          exact IH
      · rw [if_neg (fun q => hs q.1)] at IH
        exact br_nt hs IH
  refine wfX3_casesAskedBy ?_
  rw [nl_8, pk_mul, Nat.mul_comm m 8]
  exact key (bm_cnt X m) 0 (by omega)
theorem xs_lack (hN : bx_N N w) (hW : bm_wfN X N) (hx : bm_wfX X) {n a : Nat} (hn : n < 6) (ha : a < 16) (hq : Q (nI (bm_lk N n a 8)) w) : bw_ri E (d + 0) mX11_formsLacking [.ref 0, .int (nI n), .int (nI a)] w Q := by
  have key : ∀ j i, i + j = 8 → bw_G E (d + 0) mX11_formsLacking 5 [some (.ref 0), some (.int (nI n)), some (.int (nI a)), some (.int (nI (bm_lk N n a i))), some (.int (nI i)), none] [] w (bw_qi Q) := by
    intro j
    induction j with
    | zero =>
      intro i h
      have e : i = 8 := by omega
      subst e
      exact wfX11_formsLacking_5 (br_t (by decide) hq)
    | succ j ih =>
      intro i h
      have IH := ih (i + 1) (by omega)
      have hle := bm_lk_le N n a i
      refine wfX11_formsLacking_5 (br_f (nI_ge (a := i) (b := 8) (by omega) (by decide)) ?_)
      rw [show (2 : Int32) = nI 2 from rfl, pk_div (by omega) (by decide) (by decide), bm_sh4 a ha _ (by omega), show (8 : Int32) = nI 8 from rfl, pk_mul, nI_add, nI_clamp (by omega), Nat.mul_comm n 8, hN.1 _ (by omega), bx_w0 (hW.1 _ (by omega)), nI_1, nI_1]
      rw [bm_lk] at IH
      have e0 : nI (a / 2 ^ (i / 2) % 2) = 0 ↔ a / 2 ^ (i / 2) % 2 = 0 := nI_eq (b := 0) (by omega) (by decide)
      refine ⟨fun z => ?_, fun z => ⟨bm_in (by omega) (by decide), fun y => ?_, fun y => ?_⟩⟩
      · rw [if_neg (fun q => by have := e0.mp z; omega)] at IH; exact IH
      · rw [if_neg (fun q => y q.2)] at IH; exact IH
      · have z2 : a / 2 ^ (i / 2) % 2 = 1 := by
          have : ¬ a / 2 ^ (i / 2) % 2 = 0 := fun q => z (e0.mpr q)
          omega
        rw [if_pos ⟨z2, y⟩] at IH; exact IH
  exact wfX11_formsLacking (key 8 0 (by omega))
theorem qx_needs {a0 : Int32} (hX : bx_X X w) (hN : bx_N N w) (hW : bm_wfN X N) (hx : bm_wfX X) (hq : Q (br_needs X N a0) w) : bw_ri E (d + 2) mX11_needs [.ref 0, .int a0] w Q := by
  have h4 := hx.2.1
  have h6 := hx.1
  refine wfX11_needs ?_
  rw [hX.2.1, bm_x_iff (by omega)]
  unfold br_needs at hq
  cases e0 : bm_ix a0 (bm_nm X) with
  | none => rw [e0] at hq; exact br_f (fun q => q rfl) hq
  | some m =>
    rw [e0] at hq
    obtain ⟨g0, rfl⟩ := bm_ix_some e0
    dsimp only at hq
    have hlt := bm_cf_lt hx g0 (fun _ => true) (bm_cnt X m) (Nat.le_refl _)
    refine br_t (by simp) ⟨fun v w3 => nI (bm_cf X m (fun _ => true) (bm_cnt X m)) = v ∧ w = w3, xs_cases (d := d) hX hx g0 (by decide) ⟨rfl, rfl⟩, ?_⟩
    rintro _ _ ⟨rfl, rfl⟩
    generalize bm_cf X m (fun _ => true) (bm_cnt X m) = a at *
    have key : ∀ j n, n + j = bm_nn X → bw_G E (d + 2) mX11_needs 26 [some (.ref 0), some (.int (nI m)), some (.int (nI a)), some (.int (nI (bm_nd N a n))), some (.int (nI n))] [] w (bw_qi Q) := by
      intro j
      induction j with
      | zero =>
        intro n h
        have e : n = bm_nn X := by omega
        subst e
        refine wfX11_needs_26 ?_
        rw [hX.1]
        exact br_t (Int32.le_refl _) hq
      | succ j ih =>
        intro n h
        have IH := ih (n + 1) (by omega)
        refine wfX11_needs_26 ?_
        rw [hX.1]
        refine br_f (nI_ge (by omega) (by omega)) ⟨fun v w3 => nI (bm_lk N n a 8) = v ∧ w = w3, xs_lack (d := d + 1) hN hW hx (by omega) hlt ⟨rfl, rfl⟩, ?_⟩
        rintro _ _ ⟨rfl, rfl⟩
        rw [nI_add, nI_1]
        exact IH
    exact key (bm_nn X) 0 (by omega)
theorem qx_fits {a0 a1 : Int32} (hX : bx_X X w) (hN : bx_N N w) (hW : bm_wfN X N) (hx : bm_wfX X) (hq : Q (br_fits X N a0 a1) w) : bw_ri E (d + 2) mX11_fits [.ref 0, .int a0, .int a1] w Q := by
  have h4 := hx.2.1
  have h6 := hx.1
  refine wfX11_fits ?_
  rw [hX.2.1, bm_x_iff (by omega), show ((¬ (a1 < 0)) ∧ (¬ (3 ≤ a1))) = ((¬ (a1 < 0)) ∧ (¬ (nI 3 ≤ a1))) from rfl, bm_x_iff (n := 3) (by decide)]
  unfold br_fits at hq
  cases e0 : bm_ix a0 (bm_nm X) with
  | none => rw [e0] at hq; exact br_nt (fun q => q rfl) hq
  | some m =>
    refine br_nf (by simp) ?_
    cases e1 : bm_ix a1 3 with
    | none => rw [e0, e1] at hq; exact br_f (fun q => q rfl) hq
    | some h =>
      rw [e0, e1] at hq
      obtain ⟨g0, rfl⟩ := bm_ix_some e0
      obtain ⟨g1, rfl⟩ := bm_ix_some e1
      dsimp only at hq
      have hlt := bm_cf_lt hx g0 (fun k => k == h) (bm_cnt X m) (Nat.le_refl _)
      have hH : ∀ h, h < 3 → ∀ k, k < 3 → (((1 : Int32) <<< (nI h &&& 31)) >>> (nI k &&& 31) &&& 1 = 0 ↔ (k == h) = false) := by decide
      refine br_t (by simp) ⟨fun v w3 => nI (bm_cf X m (fun k => k == h) (bm_cnt X m)) = v ∧ w = w3, xs_cases (d := d) (H := fun k => k == h) hX hx g0 (hH h g1) ⟨rfl, rfl⟩, ?_⟩
      rintro _ _ ⟨rfl, rfl⟩
      generalize bm_cf X m (fun k => k == h) (bm_cnt X m) = a at *
      have key : ∀ j n, n + j = bm_nn X → bw_G E (d + 2) mX11_fits 35 [some (.ref 0), some (.int (nI m)), some (.int (nI h)), some (.int (nI a)), some (.int (br_fitF N a n)), some (.int (nI n))] [] w (bw_qi Q) := by
        intro j
        induction j with
        | zero =>
          intro n h
          have e : n = bm_nn X := by omega
          subst e
          refine wfX11_fits_35 ?_
          rw [hX.1]
          exact br_t (Int32.le_refl _) hq
        | succ j ih =>
          intro n h
          have IH := ih (n + 1) (by omega)
          have hle := bm_lk_le N n a 8
          refine wfX11_fits_35 ?_
          rw [hX.1]
          refine br_f (nI_ge (by omega) (by omega)) ⟨fun v w3 => nI (bm_lk N n a 8) = v ∧ w = w3, xs_lack (d := d + 1) hN hW hx (by omega) hlt ⟨rfl, rfl⟩, ?_⟩
          rintro _ _ ⟨rfl, rfl⟩
          rw [nI_1]
          rw [br_fitF] at IH
          have e0 : nI (bm_lk N n a 8) = 0 ↔ bm_lk N n a 8 = 0 := nI_eq (b := 0) (by omega) (by decide)
          refine ⟨fun z => ?_, fun z => ?_⟩
          · rw [if_neg (fun q => z (e0.mpr q))] at IH; exact IH
          · rw [if_pos (e0.mp z)] at IH; exact IH
      exact key (bm_nn X) 0 (by omega)
theorem qm_needs {a0 : Int32} (hX : by_X X w) (hN : by_N N w) (hW : bm_wfN X N) (hx : bm_wfX X) (hq : Q (br_needs X N a0) w) : bw_ri E (d + 2) mX12_needs [.ref 50, .int a0] w Q := by
  have h4 := hx.2.1
  have h6 := hx.1
  refine wfX12_needs ?_
  rw [bm_mm_iff hX hx]
  unfold br_needs at hq
  cases e0 : bm_ix a0 (bm_nm X) with
  | none => rw [e0] at hq; exact br_f (fun q => q rfl) hq
  | some m =>
    rw [e0] at hq
    obtain ⟨g0, rfl⟩ := bm_ix_some e0
    dsimp only at hq
    obtain ⟨hc1, hc8, hit⟩ := hx.2.2.2.2.1 m g0
    obtain ⟨g25, git⟩ := hX.2.2.2.2 m g0
    have hlt := bm_cf_lt hx g0 (fun _ => true) (bm_cnt X m) (Nat.le_refl _)
    have inner : ∀ (a : Nat), a < 16 → Q (nI (bm_nd N a (bm_nn X))) w → ∀ j n, n + j = bm_nn X → bw_G E (d + 2) mX12_needs 70 [some (.ref 50), some (.int (nI m)), some (.int (nI a)), some (.int (nI (bm_nd N a n))), some (.int (nI n)), none] [] w (bw_qi Q) := by
      intro a ha hqa j
      induction j with
      | zero =>
        intro n h
        have e : n = bm_nn X := by omega
        subst e
        refine wfX12_needs_70 ?_
        rw [hX.1]
        exact br_t (Int32.le_refl _) hqa
      | succ j ih =>
        intro n h
        have IH := ih (n + 1) (by omega)
        refine wfX12_needs_70 ?_
        rw [hX.1]
        refine br_f (nI_ge (by omega) (by omega)) ?_
        have key : ∀ j i, i + j = 8 → bw_G E (d + 2) mX12_needs 82 [some (.ref 50), some (.int (nI m)), some (.int (nI a)), some (.int (nI (bm_nd N a n + bm_lk N n a i))), some (.int (nI n)), some (.int (nI i))] [] w (bw_qi Q) := by
          intro j
          induction j with
          | zero =>
            intro i h
            have e : i = 8 := by omega
            subst e
            refine wfX12_needs_82 (br_t (by decide) ?_)
            rw [nI_1]
            exact IH
          | succ j ih2 =>
            intro i h
            have IH2 := ih2 (i + 1) (by omega)
            refine wfX12_needs_82 (br_f (nI_ge (a := i) (b := 8) (by omega) (by decide)) ?_)
            rw [show (2 : Int32) = nI 2 from rfl, pk_div (by omega) (by decide) (by decide), bm_sh4 a ha _ (by omega), show (8 : Int32) = nI 8 from rfl, pk_mul, show (7 : Int32) = nI 7 from rfl, nI_add, nI_add, nI_clamp (by omega), Nat.add_assoc 7, hN.1 _ (by omega), by_w0 (hW.1 _ (by omega)), nI_1, nI_1, Int32.add_zero]
            rw [bm_lk] at IH2
            have e1 : nI (a / 2 ^ (i / 2) % 2) = 1 ↔ a / 2 ^ (i / 2) % 2 = 1 := nI_eq (b := 1) (by omega) (by decide)
            refine ⟨fun z => ?_, fun z => ⟨bm_in (by omega) (by decide), fun y => ?_, fun y => ?_⟩⟩
            · rw [if_neg (fun q => z (e1.mpr q.1))] at IH2; exact IH2
            · rw [if_neg (fun q => y q.2)] at IH2; exact IH2
            · rw [if_pos ⟨e1.mp z, y⟩] at IH2
              rw [Nat.add_assoc]
              exact IH2
        exact key 8 0 (by omega)
    have outer : ∀ j i, i + j = bm_cnt X m → bw_G E (d + 2) mX12_needs 17 [some (.ref 50), some (.int (nI m)), some (.int (nI (bm_cf X m (fun _ => true) i))), some (.int (nI (8 * m + i))), none, none] [] w (bw_qi Q) := by
      intro j
      induction j with
      | zero =>
        intro i h
        have e : i = bm_cnt X m := by omega
        subst e
        refine wfX12_needs_17 ⟨bm_in (by omega) (by decide), ?_⟩
        rw [nI_clamp (n := m) (by omega), g25, show (8 : Int32) = nI 8 from rfl, pk_mul, nI_add]
        exact br_t (Int32.le_refl _) (inner _ hlt hq (bm_nn X) 0 (by omega))
      | succ j ih =>
        intro i h
        have hl : i < bm_cnt X m := by omega
        have hok := hit i hl
        obtain ⟨i1, i2, i3, i4⟩ := git i hl
        have IH := ih (i + 1) (by omega)
        have k0 : vp_in (nI (3 * (8 * m + i))) 96 := bm_in (by omega) (by decide)
        refine wfX12_needs_17 ⟨bm_in (by omega) (by decide), ?_⟩
        rw [nI_clamp (n := m) (by omega), g25, show (8 : Int32) = nI 8 from rfl, pk_mul, nI_add, show (3 : Int32) = nI 3 from rfl, pk_mul, show nI (3 * (8 * m + i)) + 2 = nI (3 * (8 * m + i) + 2) from nI_add _ 2, nI_clamp (n := 3 * (8 * m + i)) (by omega), nI_clamp (n := 3 * (8 * m + i) + 2) (by omega), i1, nI_1, Nat.add_assoc (8 * m), Int32.or_zero]
        refine br_f (nI_ge (by omega) (by omega)) ⟨k0, fun _ => k0, ?_⟩
        rw [bm_cf] at IH
        have hsg : ((nI (bm_it X (8 * m + i)).1 = 1) ∨ (nI (bm_it X (8 * m + i)).1 = 2)) ↔ ((bm_it X (8 * m + i)).1 = 1 ∨ (bm_it X (8 * m + i)).1 = 2) := by
          have h6 := hok.1
          generalize (bm_it X (8 * m + i)).1 = s at h6
          have : s = 0 ∨ s = 1 ∨ s = 2 ∨ s = 3 ∨ s = 4 ∨ s = 5 ∨ s = 6 := by omega
          rcases this with rfl | rfl | rfl | rfl | rfl | rfl | rfl <;> decide
        rw [hsg]
        by_cases hs : (bm_it X (8 * m + i)).1 = 1 ∨ (bm_it X (8 * m + i)).1 = 2
        · have hs0 : (bm_it X (8 * m + i)).1 ≠ 0 := by omega
          have hb := hok.2.2.2.1 (by omega)
          rw [if_pos ⟨hs, rfl⟩] at IH
          refine br_nf hs ⟨bm_in (by omega) (by decide), ?_⟩
          rw [i4 hs0 (by omega), bm_b4 _ hb, fa_or]
          exact IH
        · rw [if_neg (fun q => hs q.1)] at IH
          exact br_nt hs IH
    have := outer (bm_cnt X m) 0 (by omega)
    refine br_t (by simp) ?_
    rw [show (8 : Int32) = nI 8 from rfl, pk_mul]
    exact this
/-- whether a noun has all forms that the items ask from the i-th on -/
def bm_fn (X : bm_X) (N : bm_N) (m h n : Nat) : Nat → Nat → Bool
  | 0, _ => true
  | j + 1, i => if ((bm_it X (8 * m + i)).1 = 1 ∨ (bm_it X (8 * m + i)).1 = 2) ∧ (bm_it X (8 * m + i)).2.1 = h then (if bm_frm N (8 * n + 2 * (bm_it X (8 * m + i)).2.2.1) = [] then false else if bm_frm N (8 * n + 2 * (bm_it X (8 * m + i)).2.2.1 + 1) = [] then false else bm_fn X N m h n j (i + 1)) else bm_fn X N m h n j (i + 1)
theorem bm_fn_iff {m h n : Nat} : ∀ j i, bm_fn X N m h n j i = true ↔ ∀ t, t < j → ((bm_it X (8 * m + (i + t))).1 = 1 ∨ (bm_it X (8 * m + (i + t))).1 = 2) → (bm_it X (8 * m + (i + t))).2.1 = h → bm_frm N (8 * n + 2 * (bm_it X (8 * m + (i + t))).2.2.1) ≠ [] ∧ bm_frm N (8 * n + 2 * (bm_it X (8 * m + (i + t))).2.2.1 + 1) ≠ []
  | 0, i => ⟨fun _ t ht => absurd ht (Nat.not_lt_zero t), fun _ => rfl⟩
  | j + 1, i => by
    have ih := bm_fn_iff (m := m) (h := h) (n := n) j (i + 1)
    have shift : (∀ t, t < j + 1 → ((bm_it X (8 * m + (i + t))).1 = 1 ∨ (bm_it X (8 * m + (i + t))).1 = 2) → (bm_it X (8 * m + (i + t))).2.1 = h → bm_frm N (8 * n + 2 * (bm_it X (8 * m + (i + t))).2.2.1) ≠ [] ∧ bm_frm N (8 * n + 2 * (bm_it X (8 * m + (i + t))).2.2.1 + 1) ≠ []) ↔ ((((bm_it X (8 * m + i)).1 = 1 ∨ (bm_it X (8 * m + i)).1 = 2) → (bm_it X (8 * m + i)).2.1 = h → bm_frm N (8 * n + 2 * (bm_it X (8 * m + i)).2.2.1) ≠ [] ∧ bm_frm N (8 * n + 2 * (bm_it X (8 * m + i)).2.2.1 + 1) ≠ []) ∧ ∀ t, t < j → ((bm_it X (8 * m + (i + 1 + t))).1 = 1 ∨ (bm_it X (8 * m + (i + 1 + t))).1 = 2) → (bm_it X (8 * m + (i + 1 + t))).2.1 = h → bm_frm N (8 * n + 2 * (bm_it X (8 * m + (i + 1 + t))).2.2.1) ≠ [] ∧ bm_frm N (8 * n + 2 * (bm_it X (8 * m + (i + 1 + t))).2.2.1 + 1) ≠ []) := by
      constructor
      · intro H
        refine ⟨H 0 (by omega), fun t ht => ?_⟩
        have := H (t + 1) (by omega)
        rw [show i + (t + 1) = i + 1 + t by omega] at this
        exact this
      · rintro ⟨H0, H1⟩ t ht
        cases t with
        | zero => exact H0
        | succ t =>
          rw [show i + (t + 1) = i + 1 + t by omega]
          exact H1 t (by omega)
    rw [shift, bm_fn]
    split
    · rename_i c
      split
      · rename_i f; exact ⟨fun q => absurd q (by decide), fun q => absurd f (q.1 c.1 c.2).1⟩
      · rename_i f
        split
        · rename_i f2; exact ⟨fun q => absurd q (by decide), fun q => absurd f2 (q.1 c.1 c.2).2⟩
        · rename_i f2; rw [ih]; exact ⟨fun q => ⟨fun _ _ => ⟨f, f2⟩, q⟩, fun q => q.2⟩
    · rename_i c
      rw [ih]
      exact ⟨fun q => ⟨fun c1 c2 => absurd ⟨c1, c2⟩ c, q⟩, fun q => q.2⟩
theorem bm_cf_bit {m : Nat} (H : Nat → Bool) (c : Nat) : ∀ n, (bm_cf X m H n).testBit c = true ↔ ∃ t, t < n ∧ ((bm_it X (8 * m + t)).1 = 1 ∨ (bm_it X (8 * m + t)).1 = 2) ∧ H (bm_it X (8 * m + t)).2.1 = true ∧ (bm_it X (8 * m + t)).2.2.1 = c
  | 0 => by
    constructor
    · intro q
      rw [show bm_cf X m H 0 = 0 from rfl, Nat.zero_testBit] at q
      cases q
    · rintro ⟨t, ht, -⟩
      omega
  | n + 1 => by
    have ih := bm_cf_bit (m := m) H c n
    rw [bm_cf]
    split
    · rename_i hc
      rw [Nat.testBit_or, Bool.or_eq_true, ih, Nat.testBit_two_pow]
      constructor
      · rintro (⟨t, h1, h2⟩ | h)
        · exact ⟨t, by omega, h2⟩
        · exact ⟨n, by omega, hc.1, hc.2, of_decide_eq_true h⟩
      · rintro ⟨t, h1, h2, h3, h4⟩
        by_cases e : t = n
        · subst e; exact Or.inr (decide_eq_true h4)
        · exact Or.inl ⟨t, by omega, h2, h3, h4⟩
    · rename_i hc
      rw [ih]
      constructor
      · rintro ⟨t, h1, h2⟩; exact ⟨t, by omega, h2⟩
      · rintro ⟨t, h1, h2, h3, h4⟩
        by_cases e : t = n
        · subst e; exact absurd ⟨h2, h3⟩ hc
        · exact ⟨t, by omega, h2, h3, h4⟩
theorem bm_lk0 {n a : Nat} : ∀ i, bm_lk N n a i = 0 ↔ ∀ k, k < i → a.testBit (k / 2) = true → bm_frm N (8 * n + k) ≠ []
  | 0 => ⟨fun _ k hk => absurd hk (Nat.not_lt_zero k), fun _ => rfl⟩
  | i + 1 => by
    have ih := bm_lk0 (n := n) (a := a) i
    have tb : a.testBit (i / 2) = true ↔ a / 2 ^ (i / 2) % 2 = 1 := by
      rw [Nat.testBit_eq_decide_div_mod_eq, decide_eq_true_iff]
    rw [bm_lk]
    constructor
    · intro q k hk
      have q1 : bm_lk N n a i = 0 := by omega
      by_cases e : k = i
      · subst e
        intro z y
        rw [if_pos ⟨tb.mp z, y⟩] at q
        omega
      · exact ih.mp q1 k (by omega)
    · intro q
      rw [ih.mpr (fun k hk => q k (by omega)), if_neg (fun z => q i (by omega) (tb.mpr z.1) z.2)]
theorem bm_fn_lk (hx : bm_wfX X) {m h n : Nat} (hm : m < bm_nm X) : bm_fn X N m h n (bm_cnt X m) 0 = true ↔ bm_lk N n (bm_cf X m (fun k => k == h) (bm_cnt X m)) 8 = 0 := by
  rw [bm_fn_iff, bm_lk0]
  simp only [Nat.zero_add]
  constructor
  · intro q k hk z
    obtain ⟨t, h1, h2, h3, h4⟩ := (bm_cf_bit _ _ _).mp z
    have := q t h1 h2 (by simpa using h3)
    rw [h4] at this
    have hk2 : k = 2 * (k / 2) ∨ k = 2 * (k / 2) + 1 := by omega
    rcases hk2 with e | e
    · rw [e]; exact this.1
    · rw [e]; rw [← Nat.add_assoc]; exact this.2
  · intro q t h1 h2 h3
    have hb := ((hx.2.2.2.2.1 m hm).2.2 t h1).2.2.2.1 (by omega)
    have bit : (bm_cf X m (fun k => k == h) (bm_cnt X m)).testBit (bm_it X (8 * m + t)).2.2.1 = true := (bm_cf_bit _ _ _).mpr ⟨t, h1, h2, by simpa using h3, rfl⟩
    refine ⟨q (2 * (bm_it X (8 * m + t)).2.2.1) (by omega) ?_, ?_⟩
    · rw [show 2 * (bm_it X (8 * m + t)).2.2.1 / 2 = (bm_it X (8 * m + t)).2.2.1 by omega]; exact bit
    · have := q (2 * (bm_it X (8 * m + t)).2.2.1 + 1) (by omega) (by rw [show (2 * (bm_it X (8 * m + t)).2.2.1 + 1) / 2 = (bm_it X (8 * m + t)).2.2.1 by omega]; exact bit)
      rw [Nat.add_assoc]; exact this
theorem bm_def0 (n k u : Nat) : bm_def N n k u = 0 ↔ bm_frm N (8 * n + 2 * k + u) ≠ [] := by
  unfold bm_def
  constructor
  · intro q z
    rw [if_neg (fun y => y z)] at q
    split at q
    · cases q
    · split at q
      · cases q
      · split at q <;> cases q
  · intro q
    rw [if_pos q]
theorem ys_fn {Q : Bool → bw_W → Prop} (hX : by_X X w) (hN : by_N N w) (hW : bm_wfN X N) (hx : bm_wfX X) {m h n : Nat} (hm : m < bm_nm X) (hh : h < 3) (hn : n < 6) (hq : Q (bm_fn X N m h n (bm_cnt X m) 0) w) : bw_rb E (d + 3) mX12_fitsNoun [.ref 50, .int (nI m), .int (nI h), .int (nI n)] w Q := by
  have hm4 := hx.2.1
  obtain ⟨hc1, hc8, hit⟩ := hx.2.2.2.2.1 m hm
  obtain ⟨g25, git⟩ := hX.2.2.2.2 m hm
  have key : ∀ j i, i + j = bm_cnt X m → Q (bm_fn X N m h n j i) w → bw_G E (d + 3) mX12_fitsNoun 6 [some (.ref 50), some (.int (nI m)), some (.int (nI h)), some (.int (nI n)), some (.int (nI (8 * m + i))), none] [] w (bw_qb Q) := by
    intro j
    induction j with
    | zero =>
      intro i hi hq
      have e : i = bm_cnt X m := by omega
      subst e
      refine wfX12_fitsNoun_6 ⟨bm_in (by omega) (by decide), ?_⟩
      rw [nI_clamp (n := m) (by omega), g25, show (8 : Int32) = nI 8 from rfl, pk_mul, nI_add]
      exact br_t (Int32.le_refl _) hq
    | succ j ih =>
      intro i hi hq
      have hl : i < bm_cnt X m := by omega
      have hok := hit i hl
      obtain ⟨i1, i2, i3, i4⟩ := git i hl
      have IH := ih (i + 1) (by omega)
      have k0 : vp_in (nI (3 * (8 * m + i))) 96 := bm_in (by omega) (by decide)
      refine wfX12_fitsNoun_6 ⟨bm_in (by omega) (by decide), ?_⟩
      rw [nI_clamp (n := m) (by omega), g25, show (8 : Int32) = nI 8 from rfl, pk_mul, nI_add, show (3 : Int32) = nI 3 from rfl, pk_mul, show nI (3 * (8 * m + i)) + 1 = nI (3 * (8 * m + i) + 1) from nI_1 _, nI_clamp (n := 3 * (8 * m + i)) (by omega), nI_clamp (n := 3 * (8 * m + i) + 1) (by omega), i1, nI_1, Nat.add_assoc (8 * m)]
      refine br_f (nI_ge (by omega) (by omega)) ⟨k0, fun _ => k0, ?_⟩
      rw [bm_fn] at hq
      have hsg : ((nI (bm_it X (8 * m + i)).1 = 1) ∨ (nI (bm_it X (8 * m + i)).1 = 2)) ↔ ((bm_it X (8 * m + i)).1 = 1 ∨ (bm_it X (8 * m + i)).1 = 2) := by
        have h6 := hok.1
        generalize (bm_it X (8 * m + i)).1 = s at h6
        have : s = 0 ∨ s = 1 ∨ s = 2 ∨ s = 3 ∨ s = 4 ∨ s = 5 ∨ s = 6 := by omega
        rcases this with rfl | rfl | rfl | rfl | rfl | rfl | rfl <;> decide
      rw [hsg]
      by_cases hs : (bm_it X (8 * m + i)).1 = 1 ∨ (bm_it X (8 * m + i)).1 = 2
      · have hs0 : (bm_it X (8 * m + i)).1 ≠ 0 := by omega
        have hb := hok.2.2.2.1 (by omega)
        have hh2 := hok.2.2.1 hs0
        refine br_nf hs ⟨bm_in (by omega) (by decide), ?_⟩
        rw [i3 hs0]
        by_cases eh : (bm_it X (8 * m + i)).2.1 = h
        · rw [if_pos ⟨hs, eh⟩] at hq
          refine br_nf (by rw [eh]) ?_
          have step : ∀ u, u < 2 → (bm_frm N (8 * n + 2 * (bm_it X (8 * m + i)).2.2.1 + u) = [] → Q false w) → (bm_frm N (8 * n + 2 * (bm_it X (8 * m + i)).2.2.1 + u) ≠ [] → bw_G E (d + 3) mX12_fitsNoun 49 [some (.ref 50), some (.int (nI m)), some (.int (nI h)), some (.int (nI n)), some (.int (nI (8 * m + i))), some (.int (nI (u + 1)))] [] w (bw_qb Q)) → bw_G E (d + 3) mX12_fitsNoun 49 [some (.ref 50), some (.int (nI m)), some (.int (nI h)), some (.int (nI n)), some (.int (nI (8 * m + i))), some (.int (nI u))] [] w (bw_qb Q) := by
            intro u hu q1 q2
            have hD := bm_def_le N n (bm_it X (8 * m + i)).2.2.1 u
            refine wfX12_fitsNoun_49 ?_
            rw [show (3 : Int32) = nI 3 from rfl, pk_mul, show nI (3 * (8 * m + i)) + 2 = nI (3 * (8 * m + i) + 2) from nI_add _ 2, nI_clamp (n := 3 * (8 * m + i) + 2) (by omega), i4 hs0 (by omega)]
            refine br_f (nI_ge (b := 2) hu (by decide)) ⟨bm_in (by omega) (by decide), fun v w4 => nI (bm_def N n (bm_it X (8 * m + i)).2.2.1 u) = v ∧ w = w4, ys_def (d := d) hN hW hn hb hu ⟨rfl, rfl⟩, ?_⟩
            rintro _ _ ⟨rfl, rfl⟩
            have e0 : nI (bm_def N n (bm_it X (8 * m + i)).2.2.1 u) ≤ 0 ↔ bm_def N n (bm_it X (8 * m + i)).2.2.1 u ≤ 0 := nI_leI (b := 0) (by omega) (by decide)
            rw [nI_1]
            refine ⟨fun z => q2 ((bm_def0 _ _ _).mp (by have := e0.mp z; omega)), fun z => q1 (Classical.byContradiction (fun y => z (e0.mpr (by have := (bm_def0 _ _ _).mpr y; omega))))⟩
          refine step 0 (by omega) (fun z => ?_) (fun z => step 1 (by omega) (fun y => ?_) (fun y => ?_))
          · rw [Nat.add_zero] at z; rw [if_pos z] at hq; exact hq
          · rw [Nat.add_zero] at z; rw [if_neg z, if_pos y] at hq; exact hq
          · rw [Nat.add_zero] at z
            rw [if_neg z, if_neg y] at hq
            refine wfX12_fitsNoun_49 (br_t (by decide) ?_)
            rw [nI_1, Nat.add_assoc (8 * m)]
            exact IH hq
        · rw [if_neg (fun q => eh q.2)] at hq
          exact br_nt (fun q => eh ((nI_eq (by omega) (by omega)).mp q)) (IH hq)
      · rw [if_neg (fun q => hs q.1)] at hq
        exact br_nt hs (IH hq)
  refine wfX12_fitsNoun ?_
  rw [show (8 : Int32) = nI 8 from rfl, pk_mul]
  exact key (bm_cnt X m) 0 (by omega) hq
theorem qm_fits {a0 a1 : Int32} (hX : by_X X w) (hN : by_N N w) (hW : bm_wfN X N) (hx : bm_wfX X) (hq : Q (br_fits X N a0 a1) w) : bw_ri E (d + 4) mX12_fits [.ref 50, .int a0, .int a1] w Q := by
  have h4 := hx.2.1
  have h6 := hx.1
  refine wfX12_fits ?_
  rw [bm_mm_iff hX hx, by_H0 hX hx, show ((¬ (a1 < 0)) ∧ (¬ (2 < a1))) = ((¬ (a1 < 0)) ∧ (¬ (nI 2 < a1))) from rfl, bm_k_iff (n := 3) (k := 2) rfl (by decide)]
  unfold br_fits at hq
  cases e0 : bm_ix a0 (bm_nm X) with
  | none => rw [e0] at hq; exact br_nt (fun q => q rfl) hq
  | some m =>
    refine br_nf (by simp) ?_
    have g0' := (bm_ix_some e0).1
    have hnn : ¬ bm_nn X = 0 := fun z => by have := hx.2.2.2.2.2 z; omega
    cases e1 : bm_ix a1 3 with
    | none => rw [e0, e1] at hq; exact br_f (fun q => q.2 rfl) hq
    | some h =>
      rw [e0, e1] at hq
      obtain ⟨g0, rfl⟩ := bm_ix_some e0
      obtain ⟨g1, rfl⟩ := bm_ix_some e1
      dsimp only at hq
      refine br_t ⟨hnn, by simp⟩ ?_
      have key : ∀ j n, n + j = bm_nn X → bw_G E (d + 4) mX12_fits 23 [some (.ref 50), some (.int (nI m)), some (.int (nI h)), some (.int (br_fitF N (bm_cf X m (fun k => k == h) (bm_cnt X m)) n)), some (.int (nI n))] [] w (bw_qi Q) := by
        intro j
        induction j with
        | zero =>
          intro n hn
          have e : n = bm_nn X := by omega
          subst e
          refine wfX12_fits_23 ?_
          rw [hX.1]
          exact br_t (Int32.le_refl _) hq
        | succ j ih =>
          intro n hn
          have IH := ih (n + 1) (by omega)
          refine wfX12_fits_23 ?_
          rw [hX.1]
          refine br_f (nI_ge (by omega) (by omega)) ⟨fun v w3 => bm_fn X N m h n (bm_cnt X m) 0 = v ∧ w = w3, ys_fn (d := d) hX hN hW hx g0 g1 (by omega) ⟨rfl, rfl⟩, ?_⟩
          rintro _ _ ⟨rfl, rfl⟩
          rw [nI_1, Int32.or_zero]
          rw [br_fitF] at IH
          refine ⟨fun z => ?_, fun z => ?_⟩
          · rw [if_neg (fun q => by rw [(bm_fn_lk hx g0).mpr q] at z; cases z)] at IH; exact IH
          · rw [if_pos ((bm_fn_lk hx g0).mp z)] at IH; exact IH
      exact key (bm_nn X) 0 (by omega)
end FITS
