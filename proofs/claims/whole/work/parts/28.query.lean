/-! questions that are answered by lexicon and state alone, on both sides -/
def bm_ix (a : Int32) (n : Nat) : Option Nat := if 0 ≤ a.toInt ∧ a.toInt < n then some a.toNatClampNeg else none
theorem bm_ix_some {a : Int32} {n j : Nat} (h : bm_ix a n = some j) : j < n ∧ a = nI j := by
  unfold bm_ix at h
  split at h
  · rename_i c
    have h0 : ¬ a < 0 := fun q => by have := (fa_lt _ _).mp q; have h1 : (0 : Int32).toInt = 0 := rfl; omega
    obtain ⟨k, hk, rfl⟩ := nI_of h0
    rw [nI_clamp hk] at h
    rw [nI_toInt hk] at c
    cases h
    exact ⟨by omega, rfl⟩
  · cases h
theorem bm_ix_nI {n j : Nat} (h : j < n) (hn : n < 2 ^ 31) : bm_ix (nI j) n = some j := by
  unfold bm_ix
  rw [nI_toInt (by omega), if_pos (by omega), nI_clamp (by omega)]
theorem bm_x_iff {a : Int32} {n : Nat} (hn : n < 2 ^ 31) : ((¬ (a < 0)) ∧ (¬ (nI n ≤ a))) ↔ bm_ix a n ≠ none := by
  have h1 : (0 : Int32).toInt = 0 := rfl
  rw [fa_lt, fa_le, nI_toInt hn, h1]
  unfold bm_ix
  split
  · rename_i c; exact ⟨fun _ q => (by cases q), fun _ => (by omega)⟩
  · rename_i c; exact ⟨fun q => absurd (by omega) c, fun q => absurd rfl q⟩
theorem bm_m_iff {a : Int32} {n : Nat} (hn : n < 2 ^ 30) : ((¬ (a < 0)) ∧ (¬ ((nI n - 1) < a))) ↔ bm_ix a n ≠ none := by
  have h1 : (0 : Int32).toInt = 0 := rfl
  have h2 : (nI n - 1).toInt = (n : Int) - 1 := pk_sub_toInt (b := 1) hn (by decide)
  rw [fa_lt, fa_lt, h2, h1]
  unfold bm_ix
  split
  · rename_i c; exact ⟨fun _ q => (by cases q), fun _ => (by omega)⟩
  · rename_i c; exact ⟨fun q => absurd (by omega) c, fun q => absurd rfl q⟩
theorem bm_k_iff {a : Int32} {n k : Nat} (hk : n = k + 1) (hn : n < 2 ^ 31) : ((¬ (a < 0)) ∧ (¬ (nI k < a))) ↔ bm_ix a n ≠ none := by
  have h1 : (0 : Int32).toInt = 0 := rfl
  rw [fa_lt, fa_lt, nI_toInt (by omega), h1]
  unfold bm_ix
  split
  · rename_i c; exact ⟨fun _ q => (by cases q), fun _ => (by omega)⟩
  · rename_i c; exact ⟨fun q => absurd (by omega) c, fun q => absurd rfl q⟩
/-- how many letters, or one -/
def br_let (u : List Nat) (i : Int32) : Int32 := if i = -1 then nI u.length else if 0 ≤ i.toInt ∧ i.toInt < u.length then nI (96 + u.getD i.toNatClampNeg 0) else -1
def br_form (X : bm_X) (N : bm_N) (a0 a1 a2 a3 : Int32) : Int32 := match bm_ix a0 (bm_nn X), bm_ix a1 4, bm_ix a2 2 with
  | some n, some k, some u => br_let (bm_form X N n k u) a3
  | _, _, _ => -1
def br_def (X : bm_X) (N : bm_N) (a0 a1 a2 : Int32) : Int32 := match bm_ix a0 (bm_nn X), bm_ix a1 4, bm_ix a2 2 with
  | some n, some k, some u => nI (bm_def N n k u)
  | _, _, _ => -1
def br_word (X : bm_X) (p : Bool) (a1 a2 a3 a4 : Int32) : Int32 := if bm_nn X = 0 then -1 else match bm_ix a1 4, bm_ix a2 2, bm_ix a3 3 with
  | some k, some u, some kd => br_let (bm_wd X (bm_b2 p) k u kd) a4
  | _, _, _ => -1
def br_hole (X : bm_X) (N : bm_N) (a0 a1 : Int32) : Int32 := if bm_nn X = 0 then -1 else match bm_ix a0 3 with
  | none => -1
  | some h => match bm_hol N h with
    | none => -1
    | some (n, c) => if a1 = 0 then nI n else if a1 = 1 then nI c else if a1 = 2 then nI (bm_num c) else -1
/-- whether there is a lexicon -/
def bx_H (X : bm_X) (w : bw_W) : Prop := gw_i w 0 5 = nI (if bm_nn X = 0 then 0 else 1)
theorem bx_H0 {X : bm_X} {w : bw_W} (h : bx_H X w) : gw_i w 0 5 = 0 ↔ bm_nn X = 0 := by
  unfold bx_H at h
  rw [h]
  split
  · rename_i c; exact ⟨fun _ => c, fun _ => rfl⟩
  · rename_i c; exact ⟨fun q => absurd q (by decide), fun q => absurd q c⟩
theorem by_H0 {X : bm_X} {w : bw_W} (h : by_X X w) (hx : bm_wfX X) : gw_i w 50 34 ≤ 0 ↔ bm_nn X = 0 := by
  have := hx.1
  rw [h.1]
  rw [show (nI (bm_nn X) ≤ 0) = (nI (bm_nn X) ≤ nI 0) from rfl, nI_leI (by omega) (by decide)]
  omega
section QUERY
variable {E : bw_E} {d : Nat} {w : bw_W} {X : bm_X} {N : bm_N} {Q : Int32 → bw_W → Prop}
theorem bm_sl_iff {a1 a2 : Int32} : ((¬ (a1 < 0)) ∧ ((¬ (4 ≤ a1)) ∧ ((¬ (a2 < 0)) ∧ (¬ (2 ≤ a2))))) ↔ (bm_ix a1 4 ≠ none ∧ bm_ix a2 2 ≠ none) := by
  rw [← bm_x_iff (a := a1) (n := 4) (by decide), ← bm_x_iff (a := a2) (n := 2) (by decide)]
  exact ⟨fun h => ⟨⟨h.1, h.2.1⟩, h.2.2⟩, fun h => ⟨h.1.1, h.1.2, h.2⟩⟩
theorem bm_sm_iff {a1 a2 : Int32} : (((¬ (a1 < 0)) ∧ (¬ (3 < a1))) ∧ ((¬ (a2 < 0)) ∧ (¬ (1 < a2)))) ↔ (bm_ix a1 4 ≠ none ∧ bm_ix a2 2 ≠ none) := by
  rw [← bm_k_iff (a := a1) (n := 4) (k := 3) rfl (by decide), ← bm_k_iff (a := a2) (n := 2) (k := 1) rfl (by decide)]
  exact Iff.rfl
theorem qx_form {a0 a1 a2 a3 : Int32} (hX : bx_X X w) (hN : bx_N N w) (hW : bm_wfN X N) (hx : bm_wfX X) (hq : Q (br_form X N a0 a1 a2 a3) w) : bw_ri E (d + 3) mX11_form [.ref 0, .int a0, .int a1, .int a2, .int a3] w Q := by
  have h6 := hx.1
  refine wfX11_form ?_
  rw [hX.1, bm_x_iff (by omega), bm_sl_iff]
  unfold br_form at hq
  cases e0 : bm_ix a0 (bm_nn X) with
  | none => rw [e0] at hq; exact br_nt (fun q => q rfl) hq
  | some n =>
    refine br_nf (by simp) ?_
    cases e1 : bm_ix a1 4 with
    | none => rw [e0, e1] at hq; exact br_f (fun q => q.1 rfl) hq
    | some k =>
      cases e2 : bm_ix a2 2 with
      | none => rw [e0, e1, e2] at hq; exact br_f (fun q => q.2 rfl) hq
      | some u =>
        rw [e0, e1, e2] at hq
        obtain ⟨g0, rfl⟩ := bm_ix_some e0
        obtain ⟨g1, rfl⟩ := bm_ix_some e1
        obtain ⟨g2, rfl⟩ := bm_ix_some e2
        refine br_t (by simp) ⟨fun v w3 => bx_w (bm_form X N n k u) = v ∧ w = w3, xs_form (d := d + 1) hX hN hW hx g0 g1 g2 ⟨rfl, rfl⟩, ?_⟩
        rintro _ _ ⟨rfl, rfl⟩
        exact ⟨Q, bx_lettersOrOne (d := d) (bm_form_ok hW hx g0 g1 g2) hq, fun v w6 h => h⟩
theorem qm_form {a0 a1 a2 a3 : Int32} (hX : by_X X w) (hN : by_N N w) (hW : bm_wfN X N) (hx : bm_wfX X) (hq : Q (br_form X N a0 a1 a2 a3) w) : bw_ri E (d + 4) mX12_form [.ref 50, .int a0, .int a1, .int a2, .int a3] w Q := by
  have h6 := hx.1
  refine wfX12_form ?_
  rw [hX.1, bm_m_iff (by omega), bm_sm_iff]
  unfold br_form at hq
  cases e0 : bm_ix a0 (bm_nn X) with
  | none => rw [e0] at hq; exact br_nt (fun q => q rfl) hq
  | some n =>
    refine br_nf (by simp) ?_
    cases e1 : bm_ix a1 4 with
    | none => rw [e0, e1] at hq; exact br_nt (fun q => q.1 rfl) hq
    | some k =>
      cases e2 : bm_ix a2 2 with
      | none => rw [e0, e1, e2] at hq; exact br_nt (fun q => q.2 rfl) hq
      | some u =>
        rw [e0, e1, e2] at hq
        obtain ⟨g0, rfl⟩ := bm_ix_some e0
        obtain ⟨g1, rfl⟩ := bm_ix_some e1
        obtain ⟨g2, rfl⟩ := bm_ix_some e2
        refine br_nf (by simp) ⟨fun v w3 => by_w (bm_form X N n k u) = v ∧ w = w3, ys_form (d := d) hX hN hW hx g0 g1 g2 ⟨rfl, rfl⟩, ?_⟩
        rintro _ _ ⟨rfl, rfl⟩
        exact ⟨Q, by_letter (d := d + 1) (bm_form_ok hW hx g0 g1 g2) hq, fun v w6 h => h⟩
theorem qx_def {a0 a1 a2 : Int32} (hX : bx_X X w) (hN : bx_N N w) (hW : bm_wfN X N) (hx : bm_wfX X) (hq : Q (br_def X N a0 a1 a2) w) : bw_ri E (d + 1) mX11_byDefault [.ref 0, .int a0, .int a1, .int a2] w Q := by
  have h6 := hx.1
  refine wfX11_byDefault ?_
  rw [hX.1, bm_x_iff (by omega), bm_sl_iff]
  unfold br_def at hq
  cases e0 : bm_ix a0 (bm_nn X) with
  | none => rw [e0] at hq; exact br_nt (fun q => q rfl) hq
  | some n =>
    refine br_nf (by simp) ?_
    cases e1 : bm_ix a1 4 with
    | none => rw [e0, e1] at hq; exact br_f (fun q => q.1 rfl) hq
    | some k =>
      cases e2 : bm_ix a2 2 with
      | none => rw [e0, e1, e2] at hq; exact br_f (fun q => q.2 rfl) hq
      | some u =>
        rw [e0, e1, e2] at hq
        obtain ⟨g0, rfl⟩ := bm_ix_some e0
        obtain ⟨g1, rfl⟩ := bm_ix_some e1
        obtain ⟨g2, rfl⟩ := bm_ix_some e2
        exact br_t (by simp) ⟨Q, xs_def (d := d) hN hW (by omega) g1 g2 hq, fun v w3 h => h⟩
theorem qm_def {a0 a1 a2 : Int32} (hX : by_X X w) (hN : by_N N w) (hW : bm_wfN X N) (hx : bm_wfX X) (hq : Q (br_def X N a0 a1 a2) w) : bw_ri E (d + 3) mX12_byDefault [.ref 50, .int a0, .int a1, .int a2] w Q := by
  have h6 := hx.1
  refine wfX12_byDefault ?_
  rw [hX.1, bm_m_iff (by omega), bm_sm_iff]
  unfold br_def at hq
  cases e0 : bm_ix a0 (bm_nn X) with
  | none => rw [e0] at hq; exact br_nt (fun q => q rfl) hq
  | some n =>
    refine br_nf (by simp) ?_
    cases e1 : bm_ix a1 4 with
    | none => rw [e0, e1] at hq; exact br_nt (fun q => q.1 rfl) hq
    | some k =>
      cases e2 : bm_ix a2 2 with
      | none => rw [e0, e1, e2] at hq; exact br_nt (fun q => q.2 rfl) hq
      | some u =>
        rw [e0, e1, e2] at hq
        obtain ⟨g0, rfl⟩ := bm_ix_some e0
        obtain ⟨g1, rfl⟩ := bm_ix_some e1
        obtain ⟨g2, rfl⟩ := bm_ix_some e2
        exact br_nf (by simp) ⟨Q, ys_def (d := d) hN hW (by omega) g1 g2 hq, fun v w3 h => h⟩
theorem qx_word {p : Bool} {a1 a2 a3 a4 : Int32} (hX : bx_X X w) (hH : bx_H X w) (hx : bm_wfX X) (hq : Q (br_word X p a1 a2 a3 a4) w) : bw_ri E (d + 3) mX11_word [.ref 0, .int (bw_b p), .int a1, .int a2, .int a3, .int a4] w Q := by
  refine wfX11_word ?_
  rw [bx_H0 hH, bm_sl_iff]
  unfold br_word at hq
  by_cases h0 : bm_nn X = 0
  · rw [if_pos h0] at hq; exact br_t h0 hq
  · rw [if_neg h0] at hq
    refine br_f h0 ?_
    cases e1 : bm_ix a1 4 with
    | none => rw [e1] at hq; exact br_nt (fun q => q.1 rfl) hq
    | some k =>
      cases e2 : bm_ix a2 2 with
      | none => rw [e1, e2] at hq; exact br_nt (fun q => q.2 rfl) hq
      | some u =>
        refine br_nf (by simp) ?_
        cases e3 : bm_ix a3 3 with
        | none =>
          rw [e1, e2, e3] at hq
          refine ⟨fun _ => hq, fun c => ⟨fun c2 => ?_, fun _ => hq⟩⟩
          have := (bm_x_iff (a := a3) (n := 3) (by decide)).mp ⟨c, fun q => absurd c2 (Int32.not_lt.mpr q)⟩
          exact absurd e3 this
        | some kd =>
          rw [e1, e2, e3] at hq
          obtain ⟨g1, rfl⟩ := bm_ix_some e1
          obtain ⟨g2, rfl⟩ := bm_ix_some e2
          obtain ⟨g3, rfl⟩ := bm_ix_some e3
          refine br_f (nI_pos (by omega)) (br_t (nI_lt (b := 3) g3 (by decide)) ?_)
          have i1 : vp_in ((nI k * 2 + nI u) * 3 + nI kd) 24 := by
            rw [nl_2, nl_3, pk_mul, nI_add, pk_mul, nI_add]
            exact bm_in (by omega) (by decide)
          have i2 : vp_in ((nI k * 2 + nI u) * 3 + 0) 24 := by
            rw [nl_2, nl_3, nl_0, pk_mul, nI_add, pk_mul, nI_add]
            exact bm_in (by omega) (by decide)
          have c0 := xv_bound (p := 0) hX hx (by omega) g1 g2 g3
          have c1 := xv_bound (p := 1) hX hx (by omega) g1 g2 g3
          simp only [Nat.add_zero, show 22 + 1 = 23 from rfl] at c0 c1
          rw [c0, c1]
          cases p
          · exact ⟨fun _ => ⟨i1, fun _ => i2, Q, bx_lettersOrOne (d := d) (bm_wd_ok hx (by omega) g1 g2 g3) hq, fun v w5 h => h⟩, fun z => absurd z (by decide)⟩
          · exact ⟨fun z => absurd z (by decide), fun _ => ⟨i1, fun _ => i2, Q, bx_lettersOrOne (d := d) (bm_wd_ok hx (by omega) g1 g2 g3) hq, fun v w5 h => h⟩⟩
theorem qm_word {p : Bool} {a1 a2 a3 a4 : Int32} (hX : by_X X w) (hx : bm_wfX X) (hq : Q (br_word X p a1 a2 a3 a4) w) : bw_ri E (d + 3) mX12_word [.ref 50, .int (bw_b p), .int a1, .int a2, .int a3, .int a4] w Q := by
  refine wfX12_word ?_
  rw [by_H0 hX hx, bm_sm_iff, show ((¬ (a3 < 0)) ∧ (¬ (2 < a3))) = ((¬ (a3 < 0)) ∧ (¬ (nI 2 < a3))) from rfl, bm_k_iff (n := 3) (k := 2) rfl (by decide)]
  unfold br_word at hq
  by_cases h0 : bm_nn X = 0
  · rw [if_pos h0] at hq; exact br_nt (fun q => q h0) hq
  · rw [if_neg h0] at hq
    refine br_nf h0 ?_
    cases e1 : bm_ix a1 4 with
    | none => rw [e1] at hq; exact br_nt (fun q => q.1 rfl) hq
    | some k =>
      cases e2 : bm_ix a2 2 with
      | none => rw [e1, e2] at hq; exact br_nt (fun q => q.2 rfl) hq
      | some u =>
        refine br_nf (by simp) ?_
        cases e3 : bm_ix a3 3 with
        | none =>
          rw [e1, e2, e3] at hq
          exact br_f (fun q => q rfl) hq
        | some kd =>
          rw [e1, e2, e3] at hq
          obtain ⟨g1, rfl⟩ := bm_ix_some e1
          obtain ⟨g2, rfl⟩ := bm_ix_some e2
          obtain ⟨g3, rfl⟩ := bm_ix_some e3
          refine br_t (by simp) ⟨yv_atin hx g1 g2 g3, fun _ => yv_atin (kd := 0) hx g1 g2 (by omega), ?_⟩
          rw [yv_wordOf hX hx g1 g2 g3]
          have hp : bm_b2 p < 2 := by unfold bm_b2; split <;> omega
          exact ⟨Q, by_letter (d := d) (bm_wd_ok hx hp g1 g2 g3) hq, fun v w5 h => h⟩
theorem qx_hole {a0 a1 : Int32} (hX : bx_X X w) (hH : bx_H X w) (hN : bx_N N w) (hW : bm_wfN X N) (hx : bm_wfX X) (hq : Q (br_hole X N a0 a1) w) : bw_ri E (d + 1) mX11_hole [.ref 0, .int a0, .int a1] w Q := by
  refine wfX11_hole ?_
  rw [bx_H0 hH, show ((¬ (a0 < 0)) ∧ (¬ (3 ≤ a0))) = ((¬ (a0 < 0)) ∧ (¬ (nI 3 ≤ a0))) from rfl, bm_x_iff (n := 3) (by decide)]
  unfold br_hole at hq
  by_cases h0 : bm_nn X = 0
  · rw [if_pos h0] at hq; exact br_t h0 hq
  · rw [if_neg h0] at hq
    refine br_f h0 ?_
    cases e1 : bm_ix a0 3 with
    | none => rw [e1] at hq; exact br_nt (fun q => q rfl) hq
    | some h =>
      rw [e1] at hq
      obtain ⟨g1, rfl⟩ := bm_ix_some e1
      dsimp only at hq
      refine br_nf (by simp) ⟨xv_in g1, ?_⟩
      cases e2 : bm_hol N h with
      | none => rw [e2] at hq; exact br_nf (xv_none hN g1 e2) hq
      | some q =>
        obtain ⟨n, c⟩ := q
        rw [e2] at hq
        dsimp only at hq
        rw [xv_noun hN hW hx g1 e2, xv_count hN hW hx g1 e2, xv_num hN hW hx g1 e2]
        refine br_nt (xv_some hN hW hx g1 e2) ⟨fun z => ⟨xv_in g1, ?_⟩, fun z => ⟨xv_in g1, ?_⟩, fun z => ⟨xv_in g1, ?_⟩, fun z => ?_⟩
        · rw [if_pos z] at hq; exact hq
        · subst z; exact hq
        · subst z; exact hq
        · rw [if_neg (by intro y; subst y; exact absurd z (by decide)), if_neg (by intro y; subst y; exact absurd z (by decide)), if_neg (by intro y; subst y; exact absurd z (by decide))] at hq; exact hq
theorem qm_hole {a0 a1 : Int32} (hX : by_X X w) (hN : by_N N w) (hW : bm_wfN X N) (hx : bm_wfX X) (hq : Q (br_hole X N a0 a1) w) : bw_ri E (d + 2) mX12_hole [.ref 50, .int a0, .int a1] w Q := by
  have h6 := hx.1
  have rng : ((¬ (a0 < 0)) ∧ (¬ (2 < a0))) → ∃ h, h < 3 ∧ a0 = nI h ∧ bm_ix a0 3 = some h := by
    intro z
    have z2 := (bm_k_iff (a := a0) (n := 3) (k := 2) rfl (by decide)).mp z
    cases e : bm_ix a0 3 with
    | none => exact absurd e z2
    | some h => exact ⟨h, (bm_ix_some e).1, (bm_ix_some e).2, rfl⟩
  refine fs_X12_hole (fun z _ => ?_) (fun z _ _ _ _ => ?_) (fun z _ _ _ _ => ?_) (fun z _ _ _ => ?_) ?_
  · obtain ⟨h, h1, rfl, -⟩ := rng z.2; exact yv_in h1
  · obtain ⟨h, h1, rfl, -⟩ := rng z.2; exact yv_in2 h1
  · obtain ⟨h, h1, rfl, -⟩ := rng z.2; exact yv_in2 h1
  · obtain ⟨h, h1, rfl, -⟩ := rng z.2; exact yv_in h1
  · have e : vX12_hole w a0 a1 = br_hole X N a0 a1 := by
      unfold vX12_hole br_hole
      by_cases h0 : bm_nn X = 0
      · rw [if_pos h0, if_pos (fun z => z.1 ((by_H0 hX hx).mpr h0))]
      · rw [if_neg h0]
        by_cases hz : (¬ (a0 < 0)) ∧ (¬ (2 < a0))
        · obtain ⟨h, h1, rfl, e1⟩ := rng hz
          rw [if_neg (fun z => z ⟨fun y => h0 ((by_H0 hX hx).mp y), hz⟩), e1]
          dsimp only
          cases e2 : bm_hol N h with
          | none =>
            rw [yv_none hN h1 e2]
            split
            · rfl
            · rw [if_neg (fun z => z rfl)]
          | some q =>
            obtain ⟨n, c⟩ := q
            have g1 := (hW.2 h n c h1 e2).1
            rw [yv_noun hN h1 e2, yv_count hN h1 e2, yv_num hN hW h1 e2]
            dsimp only
            rw [if_pos (nI_ne_m1 (show n < 2 ^ 31 by omega))]
            by_cases k0 : a1 = 0
            · subst k0; rfl
            · by_cases k1 : a1 = 1
              · subst k1; rfl
              · by_cases k2 : a1 = 2
                · subst k2; rfl
                · rw [if_neg k0, if_neg k1, if_neg k2]
                  rw [if_pos]
                  intro z
                  have z2 := (bm_k_iff (a := a1) (n := 3) (k := 2) rfl (by decide)).mp z
                  cases e3 : bm_ix a1 3 with
                  | none => exact z2 e3
                  | some j =>
                    obtain ⟨j1, rfl⟩ := bm_ix_some e3
                    have : j = 0 ∨ j = 1 ∨ j = 2 := by omega
                    rcases this with rfl | rfl | rfl
                    · exact k0 rfl
                    · exact k1 rfl
                    · exact k2 rfl
        · rw [if_pos (fun z => hz z.2)]
          have : bm_ix a0 3 = none := Classical.byContradiction (fun z => hz ((bm_k_iff (a := a0) (n := 3) (k := 2) rfl (by decide)).mpr z))
          rw [this]
    rw [e]
    exact hq
end QUERY
