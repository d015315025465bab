/-! run, perform -/
theorem br_ref2 {X : bm_X} {N : bm_N} {a b c : Int32} {u : List Nat} : br_ref X N 2 a b c u = if bm_nn X = 0 then .inl 0 else match bm_ix a 2 with
    | none => .inl 1
    | some h => if bm_b2 (bm_str N) = h then .inl 2 else .inr (2, h, 0, 0, []) := by
  unfold br_ref br_res
  by_cases hn : bm_nn X = 0
  · rw [if_pos hn, if_pos hn]
  · rw [if_neg hn, if_neg hn, if_neg (by decide), if_neg (by decide), if_pos rfl]
    cases bm_ix a 2 with
    | none => rfl
    | some h =>
      show (if decide (bm_b2 (bm_str N) = h) = true then (.inl 2 : Nat ⊕ bm_P) else .inr (2, h, 0, 0, [])) = if bm_b2 (bm_str N) = h then .inl 2 else .inr (2, h, 0, 0, [])
      by_cases c : bm_b2 (bm_str N) = h
      · rw [if_pos (decide_eq_true c), if_pos c]
      · rw [if_neg (fun q => c (of_decide_eq_true q)), if_neg c]
/-- what a step comes to -/
def br_stp (X : bm_X) (N : bm_N) (p : bm_P) : Nat ⊕ bm_P := br_ref X N p.1 (nI p.2.1) (nI p.2.2.1) (nI p.2.2.2.1) p.2.2.2.2
theorem br_i3 {X : bm_X} {N : bm_N} {p : bm_P} : br_ref X N p.1 (nI p.2.1) (bm_i3 p.1 p.2.2.1) (bm_i3 p.1 p.2.2.2.1) p.2.2.2.2 = br_stp X N p := by
  unfold br_stp
  obtain ⟨s, a, b, c, u⟩ := p
  show br_ref X N s (nI a) (bm_i3 s b) (bm_i3 s c) u = br_ref X N s (nI a) (nI b) (nI c) u
  by_cases h : s = 1 ∨ s = 2
  · rcases h with rfl | rfl
    · rw [br_ref1, br_ref1]
    · rw [br_ref2, br_ref2]
  · unfold bm_i3
    rw [if_neg h, if_neg h]
def bm_go (X : bm_X) : List bm_P → bm_N → Nat × bm_N
  | [], N => (0, N)
  | p :: l, N => match br_stp X N p with
    | .inl _ => (0, N)
    | .inr q => ((bm_go X l (bm_do N q)).1 + 1, (bm_go X l (bm_do N q)).2)
def st_go : List bm_P → bm_S → Nat × bm_S
  | [], S => (0, S)
  | p :: l, S => match br_stp (st_X S) (st_N S) p with
    | .inl _ => (0, S)
    | .inr q => ((st_go l (st_do S q)).1 + 1, (st_go l (st_do S q)).2)
theorem bm_go_l {X : bm_X} {N : bm_N} {p : bm_P} {l : List bm_P} {e : Nat} (h : br_stp X N p = .inl e) : bm_go X (p :: l) N = (0, N) := by rw [bm_go, h]
theorem bm_go_r {X : bm_X} {N : bm_N} {p q : bm_P} {l : List bm_P} (h : br_stp X N p = .inr q) : bm_go X (p :: l) N = ((bm_go X l (bm_do N q)).1 + 1, (bm_go X l (bm_do N q)).2) := by rw [bm_go, h]
theorem st_go_l {S : bm_S} {p : bm_P} {l : List bm_P} {e : Nat} (h : br_stp (st_X S) (st_N S) p = .inl e) : st_go (p :: l) S = (0, S) := by rw [st_go, h]
theorem st_go_r {S : bm_S} {p q : bm_P} {l : List bm_P} (h : br_stp (st_X S) (st_N S) p = .inr q) : st_go (p :: l) S = ((st_go l (st_do S q)).1 + 1, (st_go l (st_do S q)).2) := by rw [st_go, h]
theorem bm_drop {α : Type} {p : α} {l : List α} (d : α) : ∀ {L : List α} {i : Nat}, L.drop i = p :: l → i < L.length ∧ L.getD i d = p ∧ L.drop (i + 1) = l
  | [], i, h => by rw [List.drop_nil] at h; cases h
  | a :: L, 0, h => by cases h; exact ⟨Nat.zero_lt_succ _, rfl, rfl⟩
  | a :: L, i + 1, h => by
    obtain ⟨h1, h2, h3⟩ := bm_drop d (L := L) (i := i) h
    exact ⟨Nat.succ_lt_succ h1, h2, h3⟩
theorem bm_stok_rdy {X : bm_X} {N : bm_N} {p q : bm_P} (hp : bm_stok p) (h : br_stp X N p = .inr q) : bm_rdy X q := (br_res_inr hp.1 hp.2.2.2.2.2.1 (br_ref_inr h).1).1
theorem bm_wfn_go {X : bm_X} (hx : bm_wfX X) : ∀ (l : List bm_P) {N : bm_N}, (∀ p ∈ l, bm_stok p) → bm_wfn X N → bm_wfn X (bm_go X l N).2
  | [], N, _, h => h
  | p :: l, N, hl, h => by
    cases e : br_stp X N p with
    | inl e0 => rw [bm_go_l e]; exact h
    | inr q =>
      rw [bm_go_r e]
      exact bm_wfn_go hx l (fun p hp => hl p (List.mem_cons_of_mem _ hp)) (bm_wfn_do hx h (bm_stok_rdy (hl p List.mem_cons_self) e))
theorem bm_wfS_go : ∀ (l : List bm_P) {K : Nat} {S : bm_S}, (∀ p ∈ l, bm_stok p) → bm_wfS K S → bm_wfS (K + l.length) (st_go l S).2
  | [], K, S, _, h => h
  | p :: l, K, S, hl, h => by
    cases e : br_stp (st_X S) (st_N S) p with
    | inl e0 => rw [st_go_l e]; exact h.up (by omega)
    | inr q =>
      rw [st_go_r e]
      have := bm_wfS_go l (fun p hp => hl p (List.mem_cons_of_mem _ hp)) (bm_wfS_do h (bm_stok_rdy (hl p List.mem_cons_self) e))
      rw [List.length_cons]
      exact this.up (by omega)
theorem bm_go_le (X : bm_X) : ∀ (l : List bm_P) (N : bm_N), (bm_go X l N).1 ≤ l.length
  | [], N => Nat.le_refl _
  | p :: l, N => by
    cases e : br_stp X N p with
    | inl e0 => rw [bm_go_l e]; exact Nat.zero_le _
    | inr q => rw [bm_go_r e]; have := bm_go_le X l (bm_do N q); rw [List.length_cons]; show _ + 1 ≤ _; omega
theorem bm_stok_all {C : List (List bm_P)} (hC : bm_wfC C) {n : Nat} (hn : n < C.length) : ∀ p ∈ bm_s C n, bm_stok p := by
  intro p hp
  obtain ⟨i, hi, e⟩ := List.mem_iff_getElem.mp hp
  have := (hC.2 n hn).2.2 i hi
  unfold bm_p at this
  rw [List.getD_eq_getElem?_getD, List.getElem?_eq_getElem hi] at this
  rw [← e]; exact this
theorem bx_st_sf {p : bm_P} {sp : Nat} {w : bw_W} (h : bx_st p sp w) : bx_sf p.1 (nI p.2.1) (nI p.2.2.1) (nI p.2.2.2.1) p.2.2.2.2 sp w := ⟨h.1, h.2.1, fun _ _ => ⟨h.2.2.1, h.2.2.2.1⟩, fun _ => h.2.2.2.2⟩
def br_run (S : bm_S) (a b : Int32) : Int32 := match bm_ix a (st_C S).length with
  | none => -1000000
  | some n => if bm_nn (st_X S) = 0 then -1000000 else match bm_ix b 2 with
    | none => -1000000
    | some v => if v = 1 then nI (bm_many (st_X S) (bm_go (st_X S) (bm_s (st_C S) n) (st_N S)).2 (bm_nm (st_X S))) else if (bm_go (st_X S) (bm_s (st_C S) n) (st_N S)).1 = (bm_s (st_C S) n).length then -1 else nI (bm_go (st_X S) (bm_s (st_C S) n) (st_N S)).1
def br_perf (S : bm_S) (a : Int32) : Int32 := match bm_ix a (st_C S).length with
  | none => -1
  | some n => if bm_nn (st_X S) = 0 then -1 else nI (st_go (bm_s (st_C S) n) S).1
def st_perf (S : bm_S) (a : Int32) : bm_S := match bm_ix a (st_C S).length with
  | none => S
  | some n => if bm_nn (st_X S) = 0 then S else (st_go (bm_s (st_C S) n) S).2
theorem bm_wfS_perf {K : Nat} {S : bm_S} {a : Int32} (hw : bm_wfS K S) : bm_wfS (K + 12) (st_perf S a) := by
  unfold st_perf
  cases e : bm_ix a (st_C S).length with
  | none => exact hw.up (by omega)
  | some n =>
    obtain ⟨g, rfl⟩ := bm_ix_some e
    have hC := hw.2.2.2.2.2.2
    show bm_wfS (K + 12) (if bm_nn (st_X S) = 0 then S else (st_go (bm_s (st_C S) n) S).2)
    split
    · exact hw.up (by omega)
    · have := (hC.2 n g).2.1
      exact (bm_wfS_go (bm_s (st_C S) n) (bm_stok_all hC g) hw).up (by omega)
section RUN
variable {E : bw_E} {d : Nat} {w : bw_W} {S : bm_S} {K : Nat} {Q : Int32 → bw_W → Prop}
theorem bm_x2 {a : Int32} : ((¬ (a < 0)) ∧ (¬ (1 < a))) ↔ bm_ix a 2 ≠ none := bm_k_iff (k := 1) rfl (by decide)
theorem qx_perf {a0 : Int32} (hw : bm_wfS K S) (hK : K + 12 < 2 ^ 30) (h : bx_S S w) (hq : ∀ w', bw_fr bx_al w w' → bx_S (st_perf S a0) w' → Q (br_perf S a0) w') : bw_ri E (d + 6) mX11_perform [.ref 0, .int a0] w Q := by
  have hC := hw.2.2.2.2.2.2
  have hC1 := hC.1
  have h8 := h.2.2.2.2.2.2.2.1
  unfold br_perf st_perf at hq
  refine wfX11_perform ?_
  rw [bx_H0 h.2.2.1, h8.1, bm_x_iff (by omega)]
  cases e : bm_ix a0 (st_C S).length with
  | none =>
    rw [e] at hq
    have q1 := hq w (bw_fr.rf _ _) h
    exact ⟨fun _ => q1, fun _ => br_f (fun z => z rfl) q1⟩
  | some n =>
    rw [e] at hq
    obtain ⟨g, rfl⟩ := bm_ix_some e
    replace hq : ∀ w', bw_fr bx_al w w' → bx_S (if bm_nn (st_X S) = 0 then S else (st_go (bm_s (st_C S) n) S).2) w' → Q (if bm_nn (st_X S) = 0 then -1 else nI (st_go (bm_s (st_C S) n) S).1) w' := hq
    by_cases hn : bm_nn (st_X S) = 0
    · rw [if_pos hn] at hq
      rw [if_pos hn] at hq
      exact br_t hn (hq w (bw_fr.rf _ _) h)
    rw [if_neg hn] at hq
    rw [if_neg hn] at hq
    refine br_f hn (br_t (by simp) ⟨bm_in (by omega) (by decide), ?_⟩)
    rw [nI_clamp (by omega), bm_sc30 n (by omega)]
    obtain ⟨c1, c2, c3⟩ := hC.2 n g
    have s7 := bm_sc78 n (by omega)
    have key : ∀ (l : List bm_P) (i : Nat) (T : bm_S) (K' : Nat) (w' : bw_W), (bm_s (st_C S) n).drop i = l → i ≤ (bm_s (st_C S) n).length → st_C T = st_C S → bm_wfS K' T → K' + l.length < 2 ^ 30 → bx_S T w' → (∀ w'', bw_fr bx_al w' w'' → bx_S (st_go l T).2 w'' → Q (nI (i + (st_go l T).1)) w'') → bw_G E (d + 6) mX11_perform 26 [some (.ref 0), some (.int (nI n)), some (.ref (78 + n)), some (.int (nI i))] [] w' (bw_qi Q) := by
      intro l
      induction l with
      | nil =>
        intro i T K' w' hd hil hCT hwT hKT hT hq
        have hle : (bm_s (st_C S) n).length ≤ i := List.drop_eq_nil_iff.mp hd
        obtain ⟨k1, k2⟩ := hT.2.2.2.2.2.2.2.1.2 n (by rw [hCT]; exact g)
        rw [hCT] at k1
        refine wfX11_perform_26 ⟨s7.1, ?_⟩
        rw [k1]
        exact br_t (nI_le hle (by omega)) (hq w' (bw_fr.rf _ _) hT)
      | cons p l ih =>
        intro i T K' w' hd hil hCT hwT hKT hT hq
        obtain ⟨hlt, hp, hd2⟩ := bm_drop (0, 0, 0, 0, []) hd
        obtain ⟨k1, k2⟩ := hT.2.2.2.2.2.2.2.1.2 n (by rw [hCT]; exact g)
        rw [hCT] at k1 k2
        have kp := k2 i hlt
        rw [show bm_p (bm_s (st_C S) n) i = p from hp] at kp
        have o := c3 i hlt
        rw [show bm_p (bm_s (st_C S) n) i = p from hp] at o
        rw [List.length_cons] at hKT
        refine wfX11_perform_26 ⟨s7.1, ?_⟩
        rw [k1, s7.2.1, nI_clamp (by omega), bm_sc83 n (by omega) i (by omega)]
        refine br_f (nI_ge hlt (by omega)) ⟨s7.2.2, bm_in (by omega) (by decide), fun v w6 => v = br_ok (br_stp (st_X T) (st_N T) p) ∧ bw_fr bx_al w' w6 ∧ bx_S (st_act T false (br_stp (st_X T) (st_N T) p)) w6, xs_act (d := d) (f := false) hwT (by omega) hT (bm_sc88' (by omega) (by omega)) o.1 o.2.2.2.2.2.1 (bx_st_sf kp) (fun w'' f g => ⟨rfl, f, g⟩), ?_⟩
        rintro _ w6 ⟨rfl, f6, h6⟩
        cases e : br_stp (st_X T) (st_N T) p with
        | inl e0 =>
          rw [e] at h6
          rw [st_go_l e] at hq
          exact ⟨fun _ => hq w6 f6 h6, fun z => absurd z br_ft⟩
        | inr q =>
          rw [e] at h6
          rw [st_go_r e] at hq
          refine ⟨fun z => absurd z br_tf, fun _ => ?_⟩
          rw [nI_1]
          refine ih (i + 1) (st_do T q) (K' + 1) w6 hd2 hlt hCT (bm_wfS_do hwT (bm_stok_rdy o e)) (by omega) h6 (fun w'' f'' g'' => ?_)
          have := hq w'' (f6.tr f'') g''
          rw [show i + 1 + (st_go l (st_do T q)).1 = i + ((st_go l (st_do T q)).1 + 1) by omega]
          exact this
    exact key (bm_s (st_C S) n) 0 S K w rfl (Nat.zero_le _) rfl hw (by omega) h (fun w'' f g => by rw [Nat.zero_add]; exact hq w'' f g)
theorem bw_m5 {n i : Nat} (hn : n < 5) (hi : i < 12) : vp_in (nI (12 * n + i)) 60 ∧ vp_in (nI (4 * (12 * n + i))) 240 ∧ vp_in (nI (4 * (12 * n + i) + 1)) 240 ∧ vp_in (nI (4 * (12 * n + i) + 2)) 240 ∧ vp_in (nI (4 * (12 * n + i) + 3)) 240 := ⟨bm_in (by omega) (by decide), bm_in (by omega) (by decide), bm_in (by omega) (by decide), bm_in (by omega) (by decide), bm_in (by omega) (by decide)⟩
theorem qm_perf {a0 : Int32} (hw : bm_wfS K S) (h : by_S S w) (hq : ∀ w', by_fr by_al by_aff w w' → by_S (st_perf S a0) w' → Q (br_perf S a0) w') : bw_ri E (d + 11) mX12_perform [.ref 50, .int a0] w Q := by
  have hC := hw.2.2.2.2.2.2
  have hC1 := hC.1
  have h8 := h.2.2.2.2.2.1
  unfold br_perf st_perf at hq
  refine wfX12_perform ?_
  rw [by_H0 h.2.1 hw.2.1, h8.1, bm_m_iff (by omega)]
  cases e : bm_ix a0 (st_C S).length with
  | none =>
    rw [e] at hq
    exact br_nt (fun z => z rfl) (hq w (by_fr.rf _ _ _) h)
  | some n =>
    rw [e] at hq
    obtain ⟨g, rfl⟩ := bm_ix_some e
    replace hq : ∀ w', by_fr by_al by_aff w w' → by_S (if bm_nn (st_X S) = 0 then S else (st_go (bm_s (st_C S) n) S).2) w' → Q (if bm_nn (st_X S) = 0 then -1 else nI (st_go (bm_s (st_C S) n) S).1) w' := hq
    refine br_nf (by simp) ?_
    by_cases hn : bm_nn (st_X S) = 0
    · rw [if_pos hn] at hq
      rw [if_pos hn] at hq
      exact br_nt (fun z => z hn) (hq w (by_fr.rf _ _ _) h)
    rw [if_neg hn] at hq
    rw [if_neg hn] at hq
    refine br_nf hn ⟨Q, wfX12_goSteps (a1 := true) ?_, fun _ _ h => h⟩
    obtain ⟨c1, c2, c3⟩ := hC.2 n g
    have key : ∀ (l : List bm_P) (i : Nat) (T : bm_S) (K' : Nat) (w' : bw_W), (bm_s (st_C S) n).drop i = l → i ≤ (bm_s (st_C S) n).length → st_C T = st_C S → bm_wfS K' T → by_S T w' → (∀ w'', by_fr by_al by_aff w' w'' → by_S (st_go l T).2 w'' → Q (nI (i + (st_go l T).1)) w'') → bw_G E (d + 10) mX12_goSteps 2 [some (.ref 50), some (.int (nI n)), some (.int (bw_b true)), some (.int (nI i)), none, none, none] [] w' (bw_qi Q) := by
      intro l
      induction l with
      | nil =>
        intro i T K' w' hd hil hCT hwT hT hq
        have hle : (bm_s (st_C S) n).length ≤ i := List.drop_eq_nil_iff.mp hd
        obtain ⟨k1, k2⟩ := hT.2.2.2.2.2.1.2 n (by rw [hCT]; exact g)
        rw [hCT] at k1
        refine wfX12_goSteps_2 ⟨bm_in (by omega) (by decide), ?_⟩
        rw [nI_clamp (by omega), k1]
        have eil : i = (bm_s (st_C S) n).length := by omega
        refine br_t (nI_le hle (by omega)) ⟨bm_in (by omega) (by decide), ?_⟩
        rw [← eil]
        exact hq w' (by_fr.rf _ _ _) hT
      | cons p l ih =>
        intro i T K' w' hd hil hCT hwT hT hq
        obtain ⟨hlt, hp, hd2⟩ := bm_drop (0, 0, 0, 0, []) hd
        obtain ⟨k1, k2⟩ := hT.2.2.2.2.2.1.2 n (by rw [hCT]; exact g)
        rw [hCT] at k1 k2
        have kp := k2 i hlt
        rw [show bm_p (bm_s (st_C S) n) i = p from hp] at kp
        have o := c3 i hlt
        rw [show bm_p (bm_s (st_C S) n) i = p from hp] at o
        obtain ⟨t0, t1, t2, t3, t4⟩ := kp
        obtain ⟨m1, m2, m3, m4, m5⟩ := bw_m5 (n := n) (i := i) (by omega) (by omega)
        refine wfX12_goSteps_2 ⟨bm_in (by omega) (by decide), ?_⟩
        rw [nl_12, nl_4, nl_1, nl_2, nl_3, pk_mul, nI_add, pk_mul, nI_add, nI_add, nI_add, nI_add, nI_clamp (show n < 2 ^ 31 by omega), nI_clamp (show 12 * n + i < 2 ^ 31 by omega), nI_clamp (show 4 * (12 * n + i) < 2 ^ 31 by omega), nI_clamp (show 4 * (12 * n + i) + 1 < 2 ^ 31 by omega), nI_clamp (show 4 * (12 * n + i) + 2 < 2 ^ 31 by omega), nI_clamp (show 4 * (12 * n + i) + 3 < 2 ^ 31 by omega), k1, t0, t1, t2, t3, t4]
        refine br_f (nI_ge hlt (by omega)) ⟨m1, m2, m3, m4, m5, fun v w10 => br_code (br_stp (st_X T) (st_N T) p) = v ∧ w' = w10, ys_whyNot (d := d + 6) hT.2.1 (by_N_iff.mpr hT.2.2.1.1) hwT.2.2.1.1 hwT.2.1 o.1 o.2.2.2.2.2.1 (fun _ => rfl) ⟨by rw [br_i3], rfl⟩, ?_⟩
        rintro _ _ ⟨rfl, rfl⟩
        rw [t0, t1, t2, t3]
        cases e : br_stp (st_X T) (st_N T) p with
        | inl e0 =>
          have he := br_ref_inl e
          rw [st_go_l e] at hq
          exact br_f (nI_ne_m1 (by omega)) (hq w' (by_fr.rf _ _ _) hT)
        | inr q =>
          rw [st_go_r e] at hq
          rw [← br_i3] at e
          obtain ⟨er, eso⟩ := br_ref_inr e
          obtain ⟨hr, hp1, ha, hbc, hu3⟩ := br_res_inr o.1 o.2.2.2.2.2.1 er
          refine br_t rfl (br_f (by decide) ⟨m2, m3, m4, m5, fun _ w24 => by_fr by_al by_aff w' w24 ∧ by_S (st_do T q) w24, ?_, ?_⟩)
          · generalize bm_i3 p.1 p.2.2.1 = b1 at hbc ⊢
            generalize bm_i3 p.1 p.2.2.2.1 = b2 at hbc ⊢
            rw [ha, ← hp1]
            exact ys_act (d := d) hwT hT hr (fun z1 z2 => hbc (by rw [← hp1]; exact z1) (by rw [← hp1]; exact z2)) (fun z => by rw [(hu3 (by rw [← hp1]; exact z)).1]) (fun w' f g => ⟨f, g⟩)
          · rintro _ w24 ⟨f24, h24⟩
            refine ih (i + 1) (st_do T q) (K' + 1) w24 hd2 hlt hCT (bm_wfS_do hwT hr) h24 (fun w'' f'' g'' => ?_)
            have := hq w'' (f24.tr f'') g''
            rw [show i + 1 + (st_go l (st_do T q)).1 = i + ((st_go l (st_do T q)).1 + 1) by omega]
            exact this
    exact key (bm_s (st_C S) n) 0 S K w rfl (Nat.zero_le _) rfl hw h (fun w'' f g => by rw [Nat.zero_add]; exact hq w'' f g)
abbrev bx_rl : List Nat := [32, 34, 35]
theorem bx_rl_sc : ∀ c, c ∈ bx_rl → bx_sc c ∨ c = 32 := fun c q => by
  have : ∀ c, c ∈ bx_rl → c = 34 ∨ c = 35 ∨ c = 32 := by decide
  have := this c q
  unfold bx_sc; omega
theorem qx_run {a0 a1 : Int32} (hw : bm_wfS K S) (h : bx_S S w) (hq : ∀ w', bw_fr bx_rl w w' → bx_S S w' → Q (br_run S a0 a1) w') : bw_ri E (d + 6) mX11_run [.ref 0, .int a0, .int a1] w Q := by
  have hC := hw.2.2.2.2.2.2
  have hx := hw.2.1
  have hC1 := hC.1
  have h8 := h.2.2.2.2.2.2.2.1
  unfold br_run at hq
  refine wfX11_run ?_
  rw [bx_H0 h.2.2.1, h8.1, bm_x_iff (by omega)]
  cases e : bm_ix a0 (st_C S).length with
  | none =>
    rw [e] at hq
    have q1 := hq w (bw_fr.rf _ _) h
    exact ⟨fun _ => q1, fun _ => br_nt (fun z => z rfl) q1⟩
  | some n =>
    rw [e] at hq
    obtain ⟨g, rfl⟩ := bm_ix_some e
    simp only at hq
    by_cases hn : bm_nn (st_X S) = 0
    · rw [if_pos hn] at hq
      exact br_t hn (hq w (bw_fr.rf _ _) h)
    rw [if_neg hn] at hq
    refine br_f hn (br_nf (by simp) (br_mid bm_c1 (fun z1 => ⟨bm_in (by omega) (by decide), ?_⟩) (fun z1 => by rw [Classical.not_not.mp z1] at hq; exact hq w (bw_fr.rf _ _) h)))
    cases e1 : bm_ix a1 2 with
    | none => exact absurd e1 z1
    | some v =>
    rw [e1] at hq
    obtain ⟨g1, rfl⟩ := bm_ix_some e1
    simp only at hq
    rw [nI_clamp (by omega), bm_sc30 n (by omega)]
    obtain ⟨c1, c2, c3⟩ := hC.2 n g
    have s7 := bm_sc78 n (by omega)
    generalize hw1 : cw_l w 34 (fun j => if j < 52 then (gw_l w 32 j) else (gw_l w 34 j)) = w1
    have f1 : bw_fr bx_rl w w1 := by rw [← hw1]; exact (bw_fr.rf _ _).cl (by decide)
    have e34 : ∀ i, i < 52 → gw_l w1 34 i = gw_l w 32 i := fun i hi => by rw [← hw1, gc_ll, if_pos rfl, if_pos hi]
    have hK8 : ∀ w', bw_fr bx_rl w w' → gw_i w' (78 + n) 0 = nI (bm_s (st_C S) n).length := fun w' f => by
      rw [f.i (fun q => by have : ∀ c, c ∈ bx_rl → c < 78 := by decide
                           have := this _ q; omega)]; exact (h8.2 n g).1
    -- the end of it, at what was reached
    have fin : ∀ (i : Nat) (T : bm_N) (w' w4 : bw_W), (bm_go (st_X S) (bm_s (st_C S) n) (st_N S)) = (i, T) → i ≤ 12 → bw_fr bx_rl w w' → (∀ j, j < 52 → gw_l w' 34 j = gw_l w 32 j) → bw_fr [35] w' w4 → ((¬ nI v = 1 → ((¬ nI i = (gw_i (cw_l w4 32 (fun j => if j < 52 then (gw_l w4 34 j) else (gw_l w4 32 j))) (78 + n) 0) → Q (nI i) (cw_l w4 32 (fun j => if j < 52 then (gw_l w4 34 j) else (gw_l w4 32 j)))) ∧ (nI i = (gw_i (cw_l w4 32 (fun j => if j < 52 then (gw_l w4 34 j) else (gw_l w4 32 j))) (78 + n) 0) → Q (-1) (cw_l w4 32 (fun j => if j < 52 then (gw_l w4 34 j) else (gw_l w4 32 j)))))) ∧ (nI v = 1 → Q (nI (bm_many (st_X S) T (bm_nm (st_X S)))) (cw_l w4 32 (fun j => if j < 52 then (gw_l w4 34 j) else (gw_l w4 32 j))))) := by
      intro i T w' w4 hgo hi12 f' h34 f4
      have fF : bw_fr bx_rl w (cw_l w4 32 (fun j => if j < 52 then (gw_l w4 34 j) else (gw_l w4 32 j))) := (f'.tr (f4.up (by decide))).cl (by decide)
      have q1 := hq _ fF (h.frN hw fF bx_rl_sc (bx_N_iff.mpr (fun j hj => by
        rw [gc_ll, if_pos rfl, if_pos hj, f4.l (by decide), h34 j hj]; exact bx_N_iff.mp h.2.2.2.1 j hj)))
      rw [hK8 _ fF, nI_eq (by omega) (by omega)]
      rw [hgo] at q1
      rcases (by omega : v = 0 ∨ v = 1) with rfl | rfl
      · rw [if_neg (by decide)] at q1
        refine br_nt (by decide) ⟨fun z => ?_, fun z => ?_⟩
        · rw [if_neg z] at q1; exact q1
        · rw [if_pos z] at q1; exact q1
      · rw [if_pos rfl] at q1
        exact br_nf rfl q1
    have key : ∀ (l : List bm_P) (i : Nat) (N : bm_N) (w' : bw_W), (bm_s (st_C S) n).drop i = l → bm_go (st_X S) (bm_s (st_C S) n) (st_N S) = (i + (bm_go (st_X S) l N).1, (bm_go (st_X S) l N).2) → i ≤ (bm_s (st_C S) n).length → bm_wfn (st_X S) N → bx_N N w' → bw_fr bx_rl w w' → (∀ j, j < 52 → gw_l w' 34 j = gw_l w 32 j) → bw_G E (d + 6) mX11_run 49 [some (.ref 0), some (.int (nI n)), some (.int (nI v)), some (.ref (78 + n)), some (.int (nI i)), none] [] w' (bw_qi Q) := by
      intro l
      induction l with
      | nil =>
        intro i N w' hd hgo hil hWN hN f' h34
        have hle : (bm_s (st_C S) n).length ≤ i := List.drop_eq_nil_iff.mp hd
        refine wfX11_run_49 ⟨s7.1, ?_⟩
        rw [hK8 w' f']
        refine br_t (nI_le hle (by omega)) ⟨fun v w4 => v = nI (bm_many (st_X S) N (bm_nm (st_X S))) ∧ bw_fr [35] w' w4, xs_tellable (d := d) (h.2.1.fr f' (by decide)) hN hWN.1 hx (fun w'' f => ⟨rfl, f⟩), ?_⟩
        rintro _ w4 ⟨rfl, f4⟩
        exact fin i N w' w4 hgo (by omega) f' h34 f4
      | cons p l ih =>
        intro i N w' hd hgo hil hWN hN f' h34
        obtain ⟨hlt, hp, hd2⟩ := bm_drop (0, 0, 0, 0, []) hd
        obtain ⟨k1, k2⟩ := h8.2 n g
        have n34 : ∀ c, 88 ≤ c → c ∉ bx_rl := fun c hc q => by
          have : ∀ c, c ∈ bx_rl → c < 78 := by decide
          have := this c q; omega
        have kp := (k2 i hlt).fr f' (n34 _ (by omega))
        rw [show bm_p (bm_s (st_C S) n) i = p from hp] at kp
        have o := c3 i hlt
        rw [show bm_p (bm_s (st_C S) n) i = p from hp] at o
        have hsp := bm_sc88' (n := n) (i := i) (by omega) (by omega)
        refine wfX11_run_49 ⟨s7.1, ?_⟩
        rw [hK8 w' f', s7.2.1, nI_clamp (by omega), bm_sc83 n (by omega) i (by omega)]
        refine br_f (nI_ge hlt (by omega)) ⟨s7.2.2, bm_in (by omega) (by decide), fun v w9 => br_code (br_stp (st_X S) N p) = v ∧ w' = w9, xs_ref (d := d + 3) (h.2.1.fr f' (by decide)) (h.2.2.1.fr f' (by decide)) hN hWN.1 hx hsp o.1 o.2.2.2.2.2.1 (bx_st_sf kp) ⟨rfl, rfl⟩, ?_⟩
        rintro _ _ ⟨rfl, rfl⟩
        cases e : br_stp (st_X S) N p with
        | inl e0 =>
          have he := br_ref_inl e
          rw [bm_go_l e] at hgo
          refine br_nt (nI_ne_m1 (by omega)) ⟨fun v w4 => v = nI (bm_many (st_X S) N (bm_nm (st_X S))) ∧ bw_fr [35] w' w4, xs_tellable (d := d) (h.2.1.fr f' (by decide)) hN hWN.1 hx (fun w'' f => ⟨rfl, f⟩), ?_⟩
          rintro _ w4 ⟨rfl, f4⟩
          exact fin i N w' w4 hgo (by omega) f' h34 f4
        | inr q =>
          rw [bm_go_r e] at hgo
          obtain ⟨er, eso⟩ := br_ref_inr e
          obtain ⟨hr, hp1, _⟩ := br_res_inr o.1 o.2.2.2.2.2.1 er
          have hpf := br_res_pf o.1 o.2.2.2.2.2.1 er (bx_st_sf kp)
          have hvb := bm_rdy_vb hx hr
          have hclt := bm_cel_lt hx hr
          refine br_nf rfl ⟨bm_in (by omega) (by decide), hsp, fun v w17 => nI (bm_cel q) = v ∧ w' = w17, xs_cel (d := d + 4) hsp hr.2.1 hpf ⟨rfl, rfl⟩, ?_⟩
          rintro _ _ ⟨rfl, rfl⟩
          refine ⟨fun v w20 => bm_val q = v ∧ w' = w20, xs_val (d := d + 4) hsp hr.2.1 hvb.1 hvb.2 hpf ⟨rfl, rfl⟩, ?_⟩
          rintro _ _ ⟨rfl, rfl⟩
          rw [nI_clamp (by omega), nI_1]
          refine ⟨bm_in hclt (by decide), ih (i + 1) (bm_do N q) _ hd2 ?_ hlt (bm_wfn_do hx hWN hr) (bx_set32 hx hr hN (fun j => ?_)) (f'.sl (by decide)) (fun j hj => ?_)⟩
          · rw [hgo]
            show (i + ((bm_go (st_X S) l (bm_do N q)).1 + 1), _) = (i + 1 + (bm_go (st_X S) l (bm_do N q)).1, _)
            congr 1; omega
          · rw [gs_ll]
            by_cases c : j = bm_cel q
            · rw [if_pos ⟨rfl, c⟩, if_pos c]
            · rw [if_neg (fun q => c q.2), if_neg c]
          · rw [gs_ll, if_neg (by omega)]; exact h34 j hj
    exact key (bm_s (st_C S) n) 0 (st_N S) w1 rfl (by rw [Nat.zero_add]) (Nat.zero_le _) hw.2.2.1 (bx_N_iff.mpr (fun i hi => by
      rw [← hw1, gc_ll, if_neg (by decide)]; exact bx_N_iff.mp h.2.2.2.1 i hi)) f1 e34
theorem qm_run {a0 a1 : Int32} (hw : bm_wfS K S) (h : by_S S w) (hq : ∀ w', by_fr by_wl by_wf w w' → by_S S w' → Q (br_run S a0 a1) w') : bw_ri E (d + 11) mX12_run [.ref 50, .int a0, .int a1] w Q := by
  have hC := hw.2.2.2.2.2.2
  have hx := hw.2.1
  have hC1 := hC.1
  have h8 := h.2.2.2.2.2.1
  unfold br_run at hq
  refine wfX12_run ?_
  rw [by_H0 h.2.1 hw.2.1, h8.1, bm_m_iff (by omega), bm_x2]
  cases e : bm_ix a0 (st_C S).length with
  | none =>
    rw [e] at hq
    exact br_nt (fun z => z rfl) (hq w (by_fr.rf _ _ _) h)
  | some n =>
    rw [e] at hq
    obtain ⟨g, rfl⟩ := bm_ix_some e
    simp only at hq
    refine br_nf (by simp) ?_
    by_cases hn : bm_nn (st_X S) = 0
    · rw [if_pos hn] at hq
      exact br_nt (fun z => z hn) (hq w (by_fr.rf _ _ _) h)
    rw [if_neg hn] at hq
    refine br_nf hn ?_
    cases e1 : bm_ix a1 2 with
    | none => rw [e1] at hq; exact br_f (fun z => z rfl) (hq w (by_fr.rf _ _ _) h)
    | some v =>
    rw [e1] at hq
    obtain ⟨g1, rfl⟩ := bm_ix_some e1
    simp only at hq
    obtain ⟨c1, c2, c3⟩ := hC.2 n g
    generalize hw1 : cp_l w 73 0 63 0 55 = w1
    have f1 : by_fr by_wl by_wf w w1 := by rw [← hw1]; exact (by_fr.rf _ _ _).cp (by decide) (by decide)
    refine br_t (by simp) ⟨fun w3 => w1 = w3, ys_put (d := d + 10) hw1.symm, ?_⟩
    rintro _ rfl
    have e63 : ∀ i, gw_l w1 63 i = gw_l w 63 i := fun i => by rw [← hw1, cp_l_ne (by decide)]
    refine ⟨fun v w6 => v = nI (bm_go (st_X S) (bm_s (st_C S) n) (st_N S)).1 ∧ by_fr [63, 71] by_wf w1 w6 ∧ by_N (bm_go (st_X S) (bm_s (st_C S) n) (st_N S)).2 w6 ∧ ∀ i, 55 ≤ i → gw_l w6 63 i = gw_l w1 63 i, wfX12_goSteps (a1 := false) ?_, ?_⟩
    · have key : ∀ (l : List bm_P) (i : Nat) (N : bm_N) (w' : bw_W), (bm_s (st_C S) n).drop i = l → bm_go (st_X S) (bm_s (st_C S) n) (st_N S) = (i + (bm_go (st_X S) l N).1, (bm_go (st_X S) l N).2) → i ≤ (bm_s (st_C S) n).length → bm_wfn (st_X S) N → by_N N w' → by_fr [63, 71] by_wf w1 w' → (∀ i, 55 ≤ i → gw_l w' 63 i = gw_l w1 63 i) → bw_G E (d + 10) mX12_goSteps 2 [some (.ref 50), some (.int (nI n)), some (.int (bw_b false)), some (.int (nI i)), none, none, none] [] w' (bw_qi (fun v w6 => v = nI (bm_go (st_X S) (bm_s (st_C S) n) (st_N S)).1 ∧ by_fr [63, 71] by_wf w1 w6 ∧ by_N (bm_go (st_X S) (bm_s (st_C S) n) (st_N S)).2 w6 ∧ ∀ i, 55 ≤ i → gw_l w6 63 i = gw_l w1 63 i)) := by
        intro l
        induction l with
        | nil =>
          intro i N w' hd hgo hil hWN hN f' h55
          have hle : (bm_s (st_C S) n).length ≤ i := List.drop_eq_nil_iff.mp hd
          have k8 := (h8.fr f1 (by decide) (by decide) (by decide) (by decide)).fr f' (by decide) (by decide) (by decide) (by decide)
          obtain ⟨k1, k2⟩ := k8.2 n g
          refine wfX12_goSteps_2 ⟨bm_in (by omega) (by decide), ?_⟩
          rw [nI_clamp (by omega), k1]
          have eil : i = (bm_s (st_C S) n).length := by omega
          refine br_t (nI_le hle (by omega)) ⟨bm_in (by omega) (by decide), ?_, f', ?_, h55⟩
          · rw [hgo, ← eil]; rfl
          · rw [hgo]; exact hN
        | cons p l ih =>
          intro i N w' hd hgo hil hWN hN f' h55
          obtain ⟨hlt, hp, hd2⟩ := bm_drop (0, 0, 0, 0, []) hd
          have k8 := (h8.fr f1 (by decide) (by decide) (by decide) (by decide)).fr f' (by decide) (by decide) (by decide) (by decide)
          have hX' := (h.2.1.fr f1 (by decide) (by decide) (by decide)).fr f' (by decide) (by decide) (by decide)
          obtain ⟨k1, k2⟩ := k8.2 n g
          have kp := k2 i hlt
          rw [show bm_p (bm_s (st_C S) n) i = p from hp] at kp
          have o := c3 i hlt
          rw [show bm_p (bm_s (st_C S) n) i = p from hp] at o
          obtain ⟨t0, t1, t2, t3, t4⟩ := kp
          obtain ⟨m1, m2, m3, m4, m5⟩ := bw_m5 (n := n) (i := i) (by omega) (by omega)
          refine wfX12_goSteps_2 ⟨bm_in (by omega) (by decide), ?_⟩
          rw [nl_12, nl_4, nl_1, nl_2, nl_3, pk_mul, nI_add, pk_mul, nI_add, nI_add, nI_add, nI_add, nI_clamp (show n < 2 ^ 31 by omega), nI_clamp (show 12 * n + i < 2 ^ 31 by omega), nI_clamp (show 4 * (12 * n + i) < 2 ^ 31 by omega), nI_clamp (show 4 * (12 * n + i) + 1 < 2 ^ 31 by omega), nI_clamp (show 4 * (12 * n + i) + 2 < 2 ^ 31 by omega), nI_clamp (show 4 * (12 * n + i) + 3 < 2 ^ 31 by omega), k1, t0, t1, t2, t3, t4]
          refine br_f (nI_ge hlt (by omega)) ⟨m1, m2, m3, m4, m5, fun v w10 => br_code (br_stp (st_X S) N p) = v ∧ w' = w10, ys_whyNot (d := d + 6) hX' hN hWN.1 hx o.1 o.2.2.2.2.2.1 (fun _ => rfl) ⟨by rw [br_i3], rfl⟩, ?_⟩
          rintro _ _ ⟨rfl, rfl⟩
          rw [t0, t1, t2, t3]
          cases e : br_stp (st_X S) N p with
          | inl e0 =>
            have he := br_ref_inl e
            rw [bm_go_l e] at hgo
            refine br_f (nI_ne_m1 (by omega)) ⟨?_, f', ?_, h55⟩
            · rw [hgo]; rfl
            · rw [hgo]; exact hN
          | inr q =>
            rw [bm_go_r e] at hgo
            rw [← br_i3] at e
            obtain ⟨er, eso⟩ := br_ref_inr e
            obtain ⟨hr, hp1, ha, hbc, hu3⟩ := br_res_inr o.1 o.2.2.2.2.2.1 er
            refine br_t rfl (br_t rfl ⟨m2, m3, m4, m5, fun _ w17 => by_fr [63, 71] by_wf w' w17 ∧ by_N (bm_do N q) w17 ∧ ∀ i, 55 ≤ i → gw_l w17 63 i = gw_l w' 63 i, ?_, ?_⟩)
            · generalize bm_i3 p.1 p.2.2.1 = b1 at hbc ⊢
              generalize bm_i3 p.1 p.2.2.2.1 = b2 at hbc ⊢
              rw [ha, ← hp1]
              exact ys_do (d := d + 1) hX' hN hWN hx hr (fun z1 z2 => hbc (by rw [← hp1]; exact z1) (by rw [← hp1]; exact z2)) (fun z => by rw [(hu3 (by rw [← hp1]; exact z)).1]) (fun w' f g k => ⟨f, g, k⟩)
            · rintro _ w17 ⟨f17, hN17, h17⟩
              refine ih (i + 1) (bm_do N q) w17 hd2 ?_ hlt (bm_wfn_do hx hWN hr) hN17 (f'.tr f17) (fun i hi => by rw [h17 i hi]; exact h55 i hi)
              rw [hgo]
              show (i + ((bm_go (st_X S) l (bm_do N q)).1 + 1), _) = (i + 1 + (bm_go (st_X S) l (bm_do N q)).1, _)
              congr 1; omega
      exact key (bm_s (st_C S) n) 0 (st_N S) w1 rfl (by rw [Nat.zero_add]) (Nat.zero_le _) hw.2.2.1 (by_N_iff.mpr (fun i hi => by rw [e63]; exact h.2.2.1.1 i hi)) (by_fr.rf _ _ _) (fun _ _ => rfl)
    · rintro _ w6 ⟨rfl, f6, hN6, h55⟩
      have hX6 := (h.2.1.fr f1 (by decide) (by decide) (by decide)).fr f6 (by decide) (by decide) (by decide)
      refine ⟨fun v w9 => v = nI (bm_many (st_X S) (bm_go (st_X S) (bm_s (st_C S) n) (st_N S)).2 (bm_nm (st_X S))) ∧ by_fr [71] [37, 38, 39, 40] w6 w9, ys_many (d := d + 3) hX6 hN6 (bm_wfn_go hx _ (bm_stok_all hC g) hw.2.2.1).1 hx (fun w' f' => ⟨rfl, f'⟩), ?_⟩
      rintro _ w9 ⟨rfl, f9⟩
      refine ⟨fun w12 => cp_l w9 63 0 73 0 55 = w12, ys_bring (d := d + 10) rfl, ?_⟩
      rintro _ rfl
      have f69 : by_fr [63, 71] by_wf w1 w9 := f6.tr (f9.up (by decide) (by decide))
      have fF : by_fr by_wl by_wf w (cp_l w9 63 0 73 0 55) := (f1.tr (f69.up (by decide) (by decide))).cp (by decide) (by decide)
      have hS := h.frN fF by_wl_sc.1 by_wl_sc.2 (fun i _ => ym_aside hw1 (fun i hi => f69.l (by decide) (by decide) i) (fun i hi => by rw [f9.l (by decide) (by decide)]; exact h55 i hi) i)
      have q1 := hq _ fF hS
      have hle := bm_go_le (st_X S) (bm_s (st_C S) n) (st_N S)
      have k1 := (hS.2.2.2.2.2.1.2 n g).1
      rcases (by omega : v = 0 ∨ v = 1) with rfl | rfl
      · rw [if_neg (by decide)] at q1
        refine br_nt (by decide) ⟨bm_in (by omega) (by decide), ?_⟩
        rw [nI_clamp (by omega), k1, nI_eq (by omega) (by omega)]
        refine ⟨fun z => ?_, fun z => ?_⟩
        · rw [if_neg z] at q1; exact q1
        · rw [if_pos z] at q1; exact q1
      · rw [if_pos rfl] at q1
        exact br_nf rfl q1
end RUN
