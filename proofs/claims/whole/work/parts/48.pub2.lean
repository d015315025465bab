/-! would, undo, image, back -/
section PUB2
variable {E : bw_E} {d : Nat} {w : bw_W} {S : bm_S} {K : Nat} {Q : Int32 → bw_W → Prop}
def br_would (S : bm_S) : Nat ⊕ bm_P → Int32
  | .inl _ => -1
  | .inr p => nI (bm_bits (st_X S) (bm_do (st_N S) p) (bm_nm (st_X S)))
theorem bx_set32 {N : bm_N} {X : bm_X} {p : bm_P} {w w' : bw_W} (hx : bm_wfX X) (hr : bm_rdy X p) (hN : bx_N N w) (e32 : ∀ i, gw_l w' 32 i = if i = bm_cel p then bm_val p else gw_l w 32 i) : bx_N (bm_do N p) w' := bx_N_iff.mpr (fun i hi => by
  rw [e32, cx_do N hx hr hi]
  by_cases c : i = bm_cel p
  · rw [if_pos c, if_pos c]
  · rw [if_neg c, if_neg c]; exact bx_N_iff.mp hN i hi)
abbrev bx_wl : List Nat := [32, 34, 35, 49]
theorem bx_wl_sc : ∀ c, c ∈ bx_wl → bx_sc c ∨ c = 32 := fun c q => by
  have : ∀ c, c ∈ bx_wl → c = 34 ∨ c = 35 ∨ c = 49 ∨ c = 32 := by decide
  have := this c q
  unfold bx_sc; omega
theorem qx_would {a0 a1 a2 : Int32} (hw : bm_wfS K S) (h : bx_S S w) (hq : ∀ w', bw_fr bx_wl w w' → bx_S S w' → Q (br_would S (br_ref (st_X S) (st_N S) 0 a0 a1 a2 [])) w') : bw_ri E (d + 5) mX11_would [.ref 0, .int a0, .int a1, .int a2] w Q := by
  have hx := hw.2.1
  have hW := hw.2.2.1
  obtain ⟨f1, hs1⟩ := bx_own (w := w) (s := 0) (a := a0) (b := a1) (c := a2) (v := 0) (u := []) (fun z => absurd z (by decide))
  generalize hw1 : sw_l (sw_i (sw_i (sw_i (sw_i w 49 0 (nI 0)) 49 1 a0) 49 2 a1) 49 3 a2) 49 4 0 = w1 at f1 hs1
  have h1 := h.fr hw f1 bx_sc49
  refine wfX11_would ?_
  rw [show sw_l (sw_i (sw_i (sw_i (sw_i w 49 0 0) 49 1 a0) 49 2 a1) 49 3 a2) 49 4 0 = w1 from hw1]
  refine ⟨fun v w3 => br_code (br_ref (st_X S) (st_N S) 0 a0 a1 a2 []) = v ∧ w1 = w3, xs_ref (d := d + 2) h1.2.1 h1.2.2.1 h1.2.2.2.1 hW.1 hx (by decide) (by decide) bm_ok_nil hs1 ⟨rfl, rfl⟩, ?_⟩
  rintro _ _ ⟨rfl, rfl⟩
  cases e : br_ref (st_X S) (st_N S) 0 a0 a1 a2 [] with
  | inl e0 =>
    have he := br_ref_inl e
    rw [e] at hq
    exact br_f (nI_ne_m1 (by omega)) (hq w1 (f1.up (by decide)) h1)
  | inr p =>
    rw [e] at hq
    obtain ⟨er, eso⟩ := br_ref_inr e
    obtain ⟨hr, hp1, _⟩ := br_res_inr (by decide) bm_ok_nil er
    have hpf := br_res_pf (by decide) bm_ok_nil er hs1
    have hvb := bm_rdy_vb hx hr
    have hlt := bm_cel_lt hx hr
    generalize hw2 : cw_l w1 34 (fun j => if j < 52 then (gw_l w1 32 j) else (gw_l w1 34 j)) = w2
    have f2 : bw_fr [34] w1 w2 := by rw [← hw2]; exact (bw_fr.rf _ _).cl (by decide)
    have hpf2 := hpf.fr f2 (by decide)
    refine br_t rfl ⟨fun v w6 => nI (bm_cel p) = v ∧ w2 = w6, xs_cel (d := d + 3) (by decide) hr.2.1 hpf2 ⟨rfl, rfl⟩, ?_⟩
    rintro _ _ ⟨rfl, rfl⟩
    refine ⟨fun v w9 => bm_val p = v ∧ w2 = w9, xs_val (d := d + 3) (by decide) hr.2.1 hvb.1 hvb.2 hpf2 ⟨rfl, rfl⟩, ?_⟩
    rintro _ _ ⟨rfl, rfl⟩
    rw [nI_clamp (by omega)]
    refine ⟨bm_in hlt (by decide), ?_⟩
    have f3 : bw_fr bx_wl w1 (sw_l w2 32 (bm_cel p) (bm_val p)) := (f2.up (by decide)).sl (by decide)
    have hN3 : bx_N (bm_do (st_N S) p) (sw_l w2 32 (bm_cel p) (bm_val p)) := bx_set32 hx hr h1.2.2.2.1 (fun i => by
      rw [gs_ll]
      by_cases c : i = bm_cel p
      · rw [if_pos ⟨rfl, c⟩, if_pos c]
      · rw [if_neg (fun q => c q.2), if_neg c, f2.l (by decide)])
    refine ⟨fun v w13 => v = nI (bm_bits (st_X S) (bm_do (st_N S) p) (bm_nm (st_X S))) ∧ bw_fr [35] (sw_l w2 32 (bm_cel p) (bm_val p)) w13, xs_bits (d := d) (h1.2.1.fr f3 (by decide)) hN3 (bm_wfn_do hx hW hr).1 hx (fun w' f' => ⟨rfl, f'⟩), ?_⟩
    rintro _ w13 ⟨rfl, f13⟩
    have fF : bw_fr bx_wl w1 (cw_l w13 32 (fun j => if j < 52 then (gw_l w13 34 j) else (gw_l w13 32 j))) := (f3.tr (f13.up (by decide))).cl (by decide)
    refine hq _ ((f1.up (by decide)).tr fF) (h1.frN hw fF bx_wl_sc (bx_N_iff.mpr (fun i hi => ?_)))
    rw [gc_ll, if_pos rfl, if_pos hi, f13.l (by decide), gs_ll, if_neg (by omega), ← hw2, gc_ll, if_pos rfl, if_pos hi]
    exact bx_N_iff.mp h1.2.2.2.1 i hi
theorem ys_put {Q : bw_W → Prop} (hq : Q (cp_l w 73 0 63 0 55)) : bw_rv E (d + 0) mX12_putAside [.ref 50] w Q := by
  have key : ∀ n k, k + n = 55 → bw_G E (d + 0) mX12_putAside 2 [some (.ref 50), some (.int (nI k))] [] (cp_l w 73 0 63 0 k) (bw_qv Q) := by
    intro n
    induction n with
    | zero =>
      intro k h
      have e : k = 55 := by omega
      subst e
      exact wfX12_putAside_2 (br_t (by decide) hq)
    | succ n ih =>
      intro k h
      refine wfX12_putAside_2 (br_f (nI_ge (a := k) (b := 55) (by omega) (by decide)) ?_)
      rw [nI_clamp (by omega), nI_1]
      refine ⟨bm_in (by omega) (by decide), bm_in (by omega) (by decide), ?_⟩
      have e := cp_l_s (w := w) (c := 73) (o := 0) (s := 63) (p := 0) (n := k) (Or.inl (by decide))
      rw [Nat.zero_add] at e
      rw [e]
      exact ih (k + 1) (by omega)
  have := key 55 0 (by omega)
  rw [cp_l_0] at this
  exact wfX12_putAside this
theorem ys_bring {Q : bw_W → Prop} (hq : Q (cp_l w 63 0 73 0 55)) : bw_rv E (d + 0) mX12_bringBack [.ref 50] w Q := by
  have key : ∀ n k, k + n = 55 → bw_G E (d + 0) mX12_bringBack 2 [some (.ref 50), some (.int (nI k))] [] (cp_l w 63 0 73 0 k) (bw_qv Q) := by
    intro n
    induction n with
    | zero =>
      intro k h
      have e : k = 55 := by omega
      subst e
      exact wfX12_bringBack_2 (br_t (by decide) hq)
    | succ n ih =>
      intro k h
      refine wfX12_bringBack_2 (br_f (nI_ge (a := k) (b := 55) (by omega) (by decide)) ?_)
      rw [nI_clamp (by omega), nI_1]
      refine ⟨bm_in (by omega) (by decide), bm_in (by omega) (by decide), ?_⟩
      have e := cp_l_s (w := w) (c := 63) (o := 0) (s := 73) (p := 0) (n := k) (Or.inl (by decide))
      rw [Nat.zero_add] at e
      rw [e]
      exact ih (k + 1) (by omega)
  have := key 55 0 (by omega)
  rw [cp_l_0] at this
  exact wfX12_bringBack this
abbrev by_wl : List Nat := [63, 71, 73]
abbrev by_wf : List Nat := [37, 38, 39, 40]
/-- as it was -/
theorem ym_aside {w1 w2 : bw_W} (h1 : cp_l w 73 0 63 0 55 = w1) (h2 : ∀ i, i < 55 → gw_l w2 73 i = gw_l w1 73 i) (h55 : ∀ i, 55 ≤ i → gw_l w2 63 i = gw_l w1 63 i) (i : Nat) : gw_l (cp_l w2 63 0 73 0 55) 63 i = gw_l w 63 i := by
  rw [cp_l_at]
  by_cases c : i < 55
  · rw [if_pos (by omega), h2 _ (by omega), ← h1, cp_l_at, if_pos (by omega)]
    congr 1; omega
  · rw [if_neg (by omega), h55 i (by omega), ← h1, cp_l_ne (by decide)]
theorem by_wl_sc : (∀ c, c ∈ by_wl → by_sc c ∨ c = 63) ∧ (∀ c, c ∈ by_wf → by_sf c) := by
  have h1 : ∀ c, c ∈ by_wl → c = 63 ∨ c = 71 ∨ c = 73 := by decide
  have h2 : ∀ c, c ∈ by_wf → c = 37 ∨ c = 38 ∨ c = 39 ∨ c = 40 := by decide
  refine ⟨fun c q => ?_, fun c q => ?_⟩
  · have := h1 c q; unfold by_sc; omega
  · have := h2 c q; unfold by_sf; omega
theorem qm_would {a0 a1 a2 : Int32} (hw : bm_wfS K S) (h : by_S S w) (hq : ∀ w', by_fr by_wl by_wf w w' → by_S S w' → Q (br_would S (br_ref (st_X S) (st_N S) 0 a0 a1 a2 [])) w') : bw_ri E (d + 7) mX12_would [.ref 50, .int a0, .int a1, .int a2] w Q := by
  have hx := hw.2.1
  have hW := hw.2.2.1
  have hN := by_N_iff.mpr h.2.2.1.1
  have e2 : ((¬ (a0 < 0)) ∧ (¬ (2 < a0))) ↔ bm_ix a0 3 ≠ none := bm_k_iff (k := 2) rfl (by decide)
  have in3 : ∀ {a : Int32}, bm_ix a 3 ≠ none → vp_in (1 + (2 * a)) 236 ∧ vp_in ((1 + (2 * a)) + 1) 236 := by
    intro a z
    cases f0 : bm_ix a 3 with
    | none => exact absurd f0 z
    | some h => obtain ⟨g0, rfl⟩ := bm_ix_some f0; exact ⟨yv_in g0, yv_in2 g0⟩
  refine wfX12_would ⟨fun z _ _ => (in3 (e2.mp z.2)).1, fun z _ _ _ => (in3 (e2.mp z.2)).2, ?_⟩
  rw [yv_whyFill (u := []) h.2.1 hN hW.1 hx]
  cases e : br_ref (st_X S) (st_N S) 0 a0 a1 a2 [] with
  | inl e0 =>
    have he := br_ref_inl e
    rw [e] at hq
    exact br_f (nI_ne_m1 (by omega)) (hq w (by_fr.rf _ _ _) h)
  | inr p =>
    rw [e] at hq
    obtain ⟨er, eso⟩ := br_ref_inr e
    obtain ⟨hr, hp1, ha, hbc, _⟩ := br_res_inr (by decide) bm_ok_nil er
    obtain ⟨g0, g1, g2⟩ := hr.2.2.1 hp1
    obtain ⟨hb, hc⟩ := hbc (by decide) (by decide)
    have h6 := hx.1
    generalize hw1 : cp_l w 73 0 63 0 55 = w1
    have f1 : by_fr by_wl by_wf w w1 := by rw [← hw1]; exact (by_fr.rf _ _ _).cp (by decide) (by decide)
    refine br_t rfl ⟨fun w5 => w1 = w5, ys_put (d := d + 6) hw1.symm, ?_⟩
    rintro _ rfl
    rw [ha, hb, hc]
    refine ⟨yv_in g0, yv_in2 g0, yv_in2 g0, ?_⟩
    rw [show (1 : Int32) + 2 * nI p.2.1 + 1 = nI (2 + 2 * p.2.1) by rw [nl_2, nl_1, pk_mul, nI_add, nI_add]; congr 1; omega, show (1 : Int32) + 2 * nI p.2.1 = nI (1 + 2 * p.2.1) by rw [nl_2, nl_1, pk_mul, nI_add], nI_clamp (by omega), nI_clamp (by omega), nI_l (by omega), nI_l (by omega)]
    have f2 : by_fr by_wl by_wf w1 (sw_l (sw_l w1 63 (1 + 2 * p.2.1) (lN p.2.2.1)) 63 (2 + 2 * p.2.1) (lN p.2.2.2.1)) := ((by_fr.rf _ _ _).sl (by decide) (by decide)).sl (by decide) (by decide)
    have e63 : ∀ i, gw_l w1 63 i = gw_l w 63 i := fun i => by rw [← hw1, cp_l_ne (by decide)]
    have hNn : by_N (bm_do (st_N S) p) (sw_l (sw_l w1 63 (1 + 2 * p.2.1) (lN p.2.2.1)) 63 (2 + 2 * p.2.1) (lN p.2.2.2.1)) := by
      refine by_N_iff.mpr (fun i hi => ?_)
      have ed : bm_do (st_N S) p = (bm_frm (st_N S), bm_set (bm_hol (st_N S)) p.2.1 (some (p.2.2.1, p.2.2.2.1)), bm_str (st_N S)) := by unfold bm_do; rw [if_pos hp1]
      rw [ed, gs_ll, gs_ll, e63, h.2.2.1.1 i hi]
      unfold cy_N bm_frm bm_hol bm_str
      dsimp only
      by_cases c0 : i = 0
      · rw [if_neg (by omega), if_neg (by omega), if_pos c0, if_pos c0]
      · rw [if_neg c0, if_neg c0]
        by_cases c7 : i < 7
        · rw [if_pos c7, if_pos c7]
          by_cases ca : (i - 1) / 2 = p.2.1
          · rw [ca, bm_set_eq]
            by_cases c2 : i % 2 = 1
            · rw [if_neg (by omega), if_pos (by omega), if_pos c2]; rfl
            · rw [if_pos (by omega), if_neg c2]; rfl
          · rw [bm_set_ne ca, if_neg (by omega), if_neg (by omega)]
        · rw [if_neg (by omega), if_neg (by omega), if_neg c7, if_neg c7]
    refine ⟨fun v w11 => v = nI (bm_bits (st_X S) (bm_do (st_N S) p) (bm_nm (st_X S))) ∧ by_fr [71] [37, 38, 39, 40] (sw_l (sw_l w1 63 (1 + 2 * p.2.1) (lN p.2.2.1)) 63 (2 + 2 * p.2.1) (lN p.2.2.2.1)) w11, ys_bits (d := d) ((h.2.1.fr f1 (by decide) (by decide) (by decide)).fr f2 (by decide) (by decide) (by decide)) hNn (bm_wfn_do hx hW hr).1 hx (fun w' f' => ⟨rfl, f'⟩), ?_⟩
    rintro _ w11 ⟨rfl, f11⟩
    refine ⟨fun w14 => cp_l w11 63 0 73 0 55 = w14, ys_bring (d := d + 6) rfl, ?_⟩
    rintro _ rfl
    have fF : by_fr by_wl by_wf w (cp_l w11 63 0 73 0 55) := ((f1.tr f2).tr (f11.up (by decide) (by decide))).cp (by decide) (by decide)
    refine hq _ fF (h.frN fF by_wl_sc.1 by_wl_sc.2 (fun i _ => ym_aside hw1 (fun i hi => ?_) (fun i hi => ?_) i))
    · rw [f11.l (by decide) (by decide), gs_ll, if_neg (by omega), gs_ll, if_neg (by omega)]
    · rw [f11.l (by decide) (by decide), gs_ll, if_neg (by omega), gs_ll, if_neg (by omega)]
/-! undo -/
def st_undo (S : bm_S) : bm_S := match st_U S with
  | [] => S
  | N :: U => (st_t S, st_X S, N, (st_G S).tail, U, st_I S, st_C S, st_R S)
def br_undo (S : bm_S) : Int32 := match st_U S with
  | [] => -1
  | _ :: U => nI U.length
theorem bm_wfS_undo (hw : bm_wfS K S) : bm_wfS K (st_undo S) := by
  unfold st_undo
  cases e : st_U S with
  | nil => exact hw
  | cons N U =>
    obtain ⟨h1, h2, h3, h4, h5, h6, h7⟩ := hw
    rw [e] at h5
    have hl := h5.2.1
    rw [List.length_cons] at hl
    refine ⟨h1, h2, h5.2.2 N List.mem_cons_self, ⟨?_, fun a ha => h4.2 a (List.mem_of_mem_tail ha)⟩, ⟨?_, ?_, fun N' hN => h5.2.2 N' (List.mem_cons_of_mem _ hN)⟩, h6, h7⟩
    · show (st_G S).tail.length ≤ K
      have := h4.1
      rw [List.length_tail]; omega
    · have := h5.1
      rw [List.length_cons] at this
      show U.length ≤ 40
      omega
    · show U.length ≤ (st_G S).tail.length
      rw [List.length_tail]; omega
theorem bm_a_tail {G : List bm_A} {i : Nat} : bm_a G.tail i = bm_a G (i + 1) := by
  cases G with
  | nil => unfold bm_a; rfl
  | cons a G => rfl
abbrev bx_ul : List Nat := [32, 37]
theorem qx_undo (hw : bm_wfS K S) (hK : K < 2 ^ 30) (h : bx_S S w) (hq : ∀ w', bw_fr bx_ul w w' → bx_S (st_undo S) w' → Q (br_undo S) w') : bw_ri E (d + 1) mX11_undo [.ref 0] w Q := by
  obtain ⟨h1, h2, h3, h4, h5, h6, h7, h8, h9⟩ := id h
  unfold st_undo br_undo at hq
  have hG := hw.2.2.2.1.1
  have hU := hw.2.2.2.2.1
  refine wfX11_undo ?_
  rw [h6.1]
  cases e : st_U S with
  | nil =>
    rw [e] at hq
    exact br_nf rfl (hq w (bw_fr.rf _ _) h)
  | cons N U =>
    rw [e] at hq hU h6
    rw [List.length_cons] at hU
    have hu1 : gw_i w 37 4 = nI (U.length + 1) := h6.1
    have hlg : 1 ≤ (st_G S).length := by omega
    obtain ⟨c, hc, c39, c40⟩ := h6.2 0 (by rw [List.length_cons]; omega)
    have m40 : ((st_G S).length - 1) % 40 < 40 := Nat.mod_lt _ (by decide)
    refine br_nt (nI_ne0 (by rw [List.length_cons]; omega) (by rw [List.length_cons]; omega)) ⟨fun w3 => w3 = sw_l (sw_i (sw_i w 37 1 (nI ((st_G S).length - 1))) 37 4 (nI U.length)) 32 c (gw_l w 40 (((st_G S).length - 1) % 40)), wfX2_undoLatest ?_, ?_⟩
    · rw [hu1, h5.1, nl_1, pk_sub (by omega), pk_sub (by omega), show (40 : Int32) = nI 40 from rfl, pk_rem (by omega) (by decide) (by decide), nI_clamp (by omega)]
      refine br_f (nI_ne0 (by omega) (by omega)) (br_nt (nI_ne0 (by omega) (by omega)) ⟨bm_in m40 (by decide), bm_in m40 (by decide), ?_⟩)
      rw [show gw_i w 39 (((st_G S).length - 1) % 40) = nI c from c39, nI_clamp (by omega)]
      exact ⟨bm_in hc (by decide), rfl⟩
    · rintro _ rfl
      rw [gs_il, gs_ii, if_pos ⟨rfl, rfl⟩]
      have fF : bw_fr bx_ul w (sw_l (sw_i (sw_i w 37 1 (nI ((st_G S).length - 1))) 37 4 (nI U.length)) 32 c (gw_l w 40 (((st_G S).length - 1) % 40))) := (((bw_fr.rf _ _).si (by decide)).si (by decide)).sl (by decide)
      have hl : ∀ c, c ∈ bx_ul → c < 78 := by decide
      refine hq _ fF ⟨h1.fr fF (by decide) (by decide), h2.fr fF (by decide), h3.fr fF (by decide), bx_N_iff.mpr (fun i hi => ?_), ⟨?_, fun i hi hlt => ?_⟩, ⟨?_, fun j hj => ?_⟩, h7.fr fF (by decide) (by decide) (by decide) (by decide), h8.fr hw.2.2.2.2.2.2 fF (by decide) (fun c q => Or.inl (hl c q)), h9.fr fF (by decide)⟩
      · have t := c40 i hi
        rw [gs_ll, gs_li, gs_li]
        show _ = cx_N N i
        have t' : cx_N N i = if i = c then gw_l w 40 (((st_G S).length - 1 - 0) % 40) else cx_N (st_N S) i := t
        rw [t']
        by_cases z : i = c
        · rw [if_pos ⟨rfl, z⟩, if_pos z]; rfl
        · rw [if_neg (fun q => z q.2), if_neg z]; exact bx_N_iff.mp h4 i hi
      · rw [gs_il, gs_ii, if_neg (by omega), gs_ii, if_pos ⟨rfl, rfl⟩]
        show _ = nI (st_G S).tail.length
        rw [List.length_tail]
      · have hi' : i < 60 + U.length := hi
        have hlt' : i < (st_G S).tail.length := hlt
        rw [List.length_tail] at hlt'
        rw [gs_il, gs_ii, if_neg (by omega), gs_ii, if_neg (by omega)]
        show gw_i w 38 (((st_G S).tail.length - 1 - i) % 100) = nI (bx_row (bm_a (st_G S).tail i))
        rw [bm_a_tail, List.length_tail, show (st_G S).length - 1 - 1 - i = (st_G S).length - 1 - (i + 1) by omega]
        refine h5.2 (i + 1) ?_ (by omega)
        rw [e, List.length_cons]; omega
      · rw [gs_il, gs_ii, if_pos ⟨rfl, rfl⟩]; rfl
      · have hj' : j < U.length := hj
        obtain ⟨c2, k1, k2, k3⟩ := h6.2 (j + 1) (by rw [List.length_cons]; omega)
        refine ⟨c2, k1, ?_, fun i hi => ?_⟩
        · rw [gs_il, gs_ii, if_neg (by omega), gs_ii, if_neg (by omega)]
          show gw_i w 39 (((st_G S).tail.length - 1 - j) % 40) = nI c2
          rw [List.length_tail, show (st_G S).length - 1 - 1 - j = (st_G S).length - 1 - (j + 1) by omega]; exact k2
        · rw [fF.l (show 40 ∉ bx_ul by decide)]
          show cx_N (bm_u (N :: U) (j + 1)) i = if i = c2 then gw_l w 40 (((st_G S).tail.length - 1 - j) % 40) else cx_N (bm_u (N :: U) j) i
          rw [List.length_tail, show (st_G S).length - 1 - 1 - j = (st_G S).length - 1 - (j + 1) by omega]; exact k3 i hi
abbrev by_ul : List Nat := [63]
theorem qm_undo (hw : bm_wfS K S) (h : by_S S w) (hq : ∀ w', by_fr [63] [42] w w' → by_S (st_undo S) w' → Q (br_undo S) w') : bw_ri E (d + 0) mX12_undo [.ref 50] w Q := by
  obtain ⟨h1, h2, h3, h4, h5, h6, h7⟩ := id h
  unfold st_undo br_undo at hq
  have hU := hw.2.2.2.2.1
  refine wfX12_undo ?_
  rw [h4.1]
  cases e : st_U S with
  | nil =>
    rw [e] at hq
    exact br_nf rfl (hq w (by_fr.rf _ _ _) h)
  | cons N U =>
    rw [e] at hq hU h4
    rw [List.length_cons] at hU
    rw [List.length_cons, nl_1, pk_sub (by omega), Nat.add_sub_cancel]
    refine br_nt (nI_ne0 (by omega) (by omega)) ?_
    generalize hw1 : sw_i w 50 42 (nI U.length) = w1
    have f1 : by_fr [63] [42] w w1 := by rw [← hw1]; exact (by_fr.rf _ _ _).s5 (by decide)
    have e42 : gw_i w1 50 42 = nI U.length := by rw [← hw1, gs_ii, if_pos ⟨rfl, rfl⟩]
    have key : ∀ n k, k + n = 236 → bw_G E (d + 0) mX12_undo 21 [some (.ref 50), some (.int (nI k))] [] (cp_l w1 63 0 72 (236 * U.length) k) (bw_qi Q) := by
      intro n
      induction n with
      | zero =>
        intro k hk
        have ek : k = 236 := by omega
        subst ek
        refine wfX12_undo_21 (br_t (by decide) ?_)
        rw [cp_l_i, e42]
        have fF : by_fr [63] [42] w (cp_l w1 63 0 72 (236 * U.length) 236) := f1.cp (by decide) (by decide)
        refine hq _ fF ⟨h1.fr fF (by decide) (by decide), h2.fr fF (by decide) (by decide) (by decide), ?_, ⟨by rw [cp_l_i, e42]; rfl, fun j hj => ?_⟩, h5.fr fF (by decide) (by decide), h6.fr fF (by decide) (by decide) (by decide) (by decide), h7.fr fF (by decide)⟩
        · have t := h4.2 0 (by rw [List.length_cons]; omega)
          show by_Sf N (st_G S).tail _
          rw [← List.drop_one]
          refine by_Sf_congr (fun i hi => ?_) t
          rw [cp_l_at, if_pos (by omega), ← hw1, gs_li, List.length_cons]
          exact congrArg (gw_l w 72) (by omega)
        · have hj' : j < U.length := hj
          have t := h4.2 (j + 1) (by rw [List.length_cons]; omega)
          show by_Sf (bm_u U j) ((st_G S).tail.drop (j + 1)) (fun i => gw_l (cp_l w1 63 0 72 (236 * U.length) 236) 72 (236 * (U.length - 1 - j) + i))
          rw [← List.drop_one, List.drop_drop, show 1 + (j + 1) = j + 1 + 1 by omega]
          refine by_Sf_congr (fun i hi => ?_) t
          rw [cp_l_ne (by decide), ← hw1, gs_li, List.length_cons]
          congr 1; omega
      | succ n ih =>
        intro k hk
        refine wfX12_undo_21 (br_f (nI_ge (a := k) (b := 236) (by omega) (by decide)) ?_)
        rw [cp_l_i, e42, show (236 : Int32) = nI 236 from rfl, pk_mul, nI_add, nI_clamp (by omega), nI_clamp (by omega), nI_1]
        refine ⟨bm_in (by omega) (by decide), bm_in (by omega) (by decide), ?_⟩
        have e := cp_l_s (w := w1) (c := 63) (o := 0) (s := 72) (p := 236 * U.length) (n := k) (Or.inl (by decide))
        rw [Nat.zero_add] at e
        rw [e]
        exact ih (k + 1) (by omega)
    have := key 236 0 (by omega)
    rw [cp_l_0] at this
    exact this
/-! image, back -/
def st_image (S : bm_S) : bm_S := if bm_nn (st_X S) = 0 then S else (st_t S, st_X S, st_N S, st_G S, st_U S, some (st_N S, st_G S), st_C S, st_R S)
def br_image (S : bm_S) : Int32 := if bm_nn (st_X S) = 0 then -1 else nI (bm_many (st_X S) (st_N S) (bm_nm (st_X S)))
def st_back (S : bm_S) : bm_S := match st_I S with
  | none => S
  | some p => (st_t S, st_X S, p.1, p.2, [], st_I S, st_C S, st_R S)
def br_back (S : bm_S) : Int32 := match st_I S with
  | none => -1
  | some p => nI (bm_many (st_X S) p.1 (bm_nm (st_X S)))
theorem bm_wfS_image (hw : bm_wfS K S) : bm_wfS K (st_image S) := by
  unfold st_image
  split
  · exact hw
  · rename_i c
    obtain ⟨h1, h2, h3, h4, h5, h6, h7⟩ := hw
    exact ⟨h1, h2, h3, h4, h5, fun p hp => by cases hp; exact ⟨c, h3, h4⟩, h7⟩
theorem bm_wfS_back (hw : bm_wfS K S) : bm_wfS K (st_back S) := by
  unfold st_back
  cases e : st_I S with
  | none => exact hw
  | some p =>
    obtain ⟨h1, h2, h3, h4, h5, h6, h7⟩ := hw
    have t := h6 p e
    refine ⟨h1, h2, t.2.1, t.2.2, ⟨Nat.zero_le _, Nat.zero_le _, fun N hN => by cases hN⟩, fun q hq => ?_, h7⟩
    have hq' : some p = some q := hq
    cases hq'
    exact t
abbrev bx_il : List Nat := [0, 35, 42, 43, 44]
theorem qx_image (hw : bm_wfS K S) (h : bx_S S w) (hq : ∀ w', bw_fr bx_il w w' → bx_S (st_image S) w' → Q (br_image S) w') : bw_ri E (d + 6) mX11_image [.ref 0] w Q := by
  have hx := hw.2.1
  obtain ⟨h1, h2, h3, h4, h5, h6, h7, h8, h9⟩ := id h
  have hwI := bm_wfS_image hw
  unfold st_image at hq hwI
  unfold br_image at hq
  refine wfX11_image ?_
  rw [bx_H0 h3]
  by_cases hn : bm_nn (st_X S) = 0
  · rw [if_pos hn] at hq
    rw [if_pos hn] at hq
    exact br_nf hn (hq w (bw_fr.rf _ _) h)
  · rw [if_neg hn] at hq hwI
    rw [if_neg hn] at hq
    refine br_nt hn ?_
    generalize hwA : cw_l w 42 (fun j => if j < 52 then (gw_l w 32 j) else (gw_l w 42 j)) = wA
    generalize hwB : sw_i (sw_i (sw_i (cw_i wA 44 (fun j => if j < 100 then (gw_i wA 38 j) else (gw_i wA 44 j))) 43 1 (gw_i wA 37 1)) 43 4 0) 0 14 1 = wB
    have fB : bw_fr bx_il w wB := by
      rw [← hwB, ← hwA]
      exact (((((bw_fr.rf _ _).cl (by decide)).ci (by decide)).si (by decide)).si (by decide)).si (by decide)
    have g42 : ∀ i, i < 52 → gw_l wB 42 i = gw_l w 32 i := fun i hi => by
      rw [← hwB, gs_li, gs_li, gs_li, gc_li, ← hwA, gc_ll, if_pos rfl, if_pos hi]
    have g44 : ∀ i, i < 100 → gw_i wB 44 i = gw_i w 38 i := fun i hi => by
      rw [← hwB, gs_ii, if_neg (by omega), gs_ii, if_neg (by omega), gs_ii, if_neg (by omega), gc_ii, if_pos rfl, if_pos hi, ← hwA, gc_il]
    have g43 : gw_i wB 43 1 = gw_i w 37 1 := by
      rw [← hwB, gs_ii, if_neg (by omega), gs_ii, if_neg (by omega), gs_ii, if_pos ⟨rfl, rfl⟩, ← hwA, gc_il]
    have g014 : gw_i wB 0 14 = 1 := by rw [← hwB, gs_ii, if_pos ⟨rfl, rfl⟩]
    have g0 : ∀ k, k ≠ 14 → gw_i wB 0 k = gw_i w 0 k := fun k hk => by
      rw [← hwB, gs_ii, if_neg (by omega), gs_ii, if_neg (by omega), gs_ii, if_neg (by omega), gc_ii, if_neg (by omega), ← hwA, gc_il]
    have hSB : bx_S (st_t S, st_X S, st_N S, st_G S, st_U S, some (st_N S, st_G S), st_C S, st_R S) wB := by
      refine ⟨h1.fr fB (by decide) (by decide), h2.fr fB (by decide), ?_, h4.fr fB (by decide), h5.fr fB (by decide) (by decide), h6.fr fB (by decide) (by decide) (by decide), ⟨by rw [g014]; rfl, fun p hp => ?_⟩, ⟨?_, fun n hn => ?_⟩, h9.fr fB (by decide)⟩
      · show gw_i wB 0 5 = _
        rw [g0 5 (by decide)]; exact h3
      · cases hp
        refine ⟨fun i hi => ?_, ?_, fun i hi hl => ?_⟩
        · rw [g42 i hi]; exact bx_N_iff.mp h4 i hi
        · rw [g43]; exact h5.1
        · rw [g44 _ (Nat.mod_lt _ (by decide))]
          exact h5.2 i (by omega) hl
      · show gw_i wB 0 7 = _
        rw [g0 7 (by decide)]; exact h8.1
      · have t := h8.2 n hn
        have hC := hw.2.2.2.2.2.2
        have n5 : n < 4 := Nat.lt_of_lt_of_le hn hC.1
        have nl : ∀ c, 78 ≤ c → c ∉ bx_il := fun c hc q => by
          have : ∀ c, c ∈ bx_il → c < 78 := by decide
          have := this c q; omega
        refine ⟨?_, fun i hi => (t.2 i hi).fr fB (nl _ (by omega))⟩
        rw [fB.i (nl _ (by omega))]; exact t.1
    refine ⟨Q, xs_tellable (d := d) hSB.2.1 hSB.2.2.2.1 hw.2.2.1.1 hx (fun w' f' => ?_), fun _ _ h => h⟩
    exact hq w' (fB.tr (f'.up (by decide))) (hSB.fr hwI f' bx_sc35)
abbrev bx_bl : List Nat := [32, 35, 37, 38]
theorem qx_back (hw : bm_wfS K S) (h : bx_S S w) (hq : ∀ w', bw_fr bx_bl w w' → bx_S (st_back S) w' → Q (br_back S) w') : bw_ri E (d + 6) mX11_back [.ref 0] w Q := by
  have hx := hw.2.1
  obtain ⟨h1, h2, h3, h4, h5, h6, h7, h8, h9⟩ := id h
  have hwI := bm_wfS_back hw
  unfold st_back at hq hwI
  unfold br_back at hq
  refine wfX11_back ?_
  rw [bx_H0 h3, h7.1]
  cases e : st_I S with
  | none =>
    rw [e] at hq
    have q1 := hq w (bw_fr.rf _ _) h
    exact ⟨fun _ => q1, fun _ => br_nf rfl q1⟩
  | some p =>
    rw [e] at hq hwI
    have t := hw.2.2.2.2.2.1 p e
    have t7 := h7.2 p e
    refine br_f t.1 (br_nt (by show ¬ nI (bm_b2 true) = 0; decide) ?_)
    generalize hwA : cw_l w 32 (fun j => if j < 52 then (gw_l w 42 j) else (gw_l w 32 j)) = wA
    generalize hwB : sw_i (sw_i (cw_i wA 38 (fun j => if j < 100 then (gw_i wA 44 j) else (gw_i wA 38 j))) 37 1 (gw_i wA 43 1)) 37 4 0 = wB
    have fB : bw_fr bx_bl w wB := by
      rw [← hwB, ← hwA]
      exact ((((bw_fr.rf _ _).cl (by decide)).ci (by decide)).si (by decide)).si (by decide)
    have g32 : ∀ i, i < 52 → gw_l wB 32 i = gw_l w 42 i := fun i hi => by
      rw [← hwB, gs_li, gs_li, gc_li, ← hwA, gc_ll, if_pos rfl, if_pos hi]
    have g38 : ∀ i, i < 100 → gw_i wB 38 i = gw_i w 44 i := fun i hi => by
      rw [← hwB, gs_ii, if_neg (by omega), gs_ii, if_neg (by omega), gc_ii, if_pos rfl, if_pos hi, ← hwA, gc_il]
    have g37 : gw_i wB 37 1 = gw_i w 43 1 := by
      rw [← hwB, gs_ii, if_neg (by omega), gs_ii, if_pos ⟨rfl, rfl⟩, ← hwA, gc_il]
    have g374 : gw_i wB 37 4 = 0 := by rw [← hwB, gs_ii, if_pos ⟨rfl, rfl⟩]
    have hl : ∀ c, c ∈ bx_bl → c < 78 := by decide
    have h7' := h7.fr fB (by decide) (by decide) (by decide) (by decide)
    rw [e] at h7'
    have hSB : bx_S (st_t S, st_X S, p.1, p.2, [], some p, st_C S, st_R S) wB := by
      refine ⟨h1.fr fB (by decide) (by decide), h2.fr fB (by decide), h3.fr fB (by decide), bx_N_iff.mpr (fun i hi => ?_), ⟨?_, fun i hi hl2 => ?_⟩, ⟨by rw [g374]; rfl, fun j hj => absurd hj (Nat.not_lt_zero j)⟩, h7', h8.fr hw.2.2.2.2.2.2 fB (by decide) (fun c q => Or.inl (hl c q)), h9.fr fB (by decide)⟩
      · rw [g32 i hi]; exact t7.1 i hi
      · rw [g37]; exact t7.2.1
      · rw [g38 _ (Nat.mod_lt _ (by decide))]
        exact t7.2.2 i hi hl2
    refine ⟨Q, xs_tellable (d := d) hSB.2.1 hSB.2.2.2.1 t.2.1.1 hx (fun w' f' => ?_), fun _ _ h => h⟩
    exact hq w' (fB.tr (f'.up (by decide))) (hSB.fr hwI f' bx_sc35)
theorem by_S71 {T : bm_S} {w w' : bw_W} (h : by_S T w) (hf : by_fr [71] [37, 38, 39, 40] w w') : by_S T w' := h.fr hf (fun c q => by rw [List.mem_singleton.mp q]; unfold by_sc; omega) by_wl_sc.2
theorem qm_image (hw : bm_wfS K S) (h : by_S S w) (hq : ∀ w', by_fr [71, 76] [37, 38, 39, 40, 51] w w' → by_S (st_image S) w' → Q (br_image S) w') : bw_ri E (d + 8) mX12_image [.ref 50] w Q := by
  have hx := hw.2.1
  obtain ⟨h1, h2, h3, h4, h5, h6, h7⟩ := id h
  unfold st_image br_image at hq
  refine wfX12_image ?_
  rw [by_H0 h2 hx]
  by_cases hn : bm_nn (st_X S) = 0
  · rw [if_pos hn] at hq
    rw [if_pos hn] at hq
    exact br_f (fun z => z hn) (hq w (by_fr.rf _ _ _) h)
  · rw [if_neg hn] at hq
    rw [if_neg hn] at hq
    refine br_t hn ?_
    have key : ∀ n k, k + n = 236 → bw_G E (d + 8) mX12_image 11 [some (.ref 50), some (.int (nI k))] [] (cp_l w 76 0 63 0 k) (bw_qi Q) := by
      intro n
      induction n with
      | zero =>
        intro k hk
        have ek : k = 236 := by omega
        subst ek
        refine wfX12_image_11 (br_t (by decide) ?_)
        have fF : by_fr [71, 76] [37, 38, 39, 40, 51] w (sw_i (cp_l w 76 0 63 0 236) 50 51 1) := ((by_fr.rf _ _ _).cp (by decide) (by decide)).s5 (by decide)
        have hS : by_S (st_t S, st_X S, st_N S, st_G S, st_U S, some (st_N S, st_G S), st_C S, st_R S) (sw_i (cp_l w 76 0 63 0 236) 50 51 1) := by
          refine ⟨h1.fr fF (by decide) (by decide), h2.fr fF (by decide) (by decide) (by decide), by rw [fF.fl (by decide) (by decide)]; exact h3, h4.fr fF (by decide) (by decide), ⟨by rw [gs_ii, if_pos ⟨rfl, rfl⟩]; rfl, fun p hp => ?_⟩, h6.fr fF (by decide) (by decide) (by decide) (by decide), h7.fr fF (by decide)⟩
          cases hp
          refine by_Sf_congr (fun i hi => ?_) h3
          rw [gs_li, cp_l_at, if_pos (by omega)]
          congr 1; omega
        refine ⟨Q, ys_many (d := d) hS.2.1 (by_N_iff.mpr hS.2.2.1.1) hw.2.2.1.1 hx (fun w' f' => ?_), fun _ _ h => h⟩
        exact hq w' (fF.tr (f'.up (by decide) (by decide))) (by_S71 hS f')
      | succ n ih =>
        intro k hk
        refine wfX12_image_11 (br_f (nI_ge (a := k) (b := 236) (by omega) (by decide)) ?_)
        rw [nI_clamp (by omega), nI_1]
        refine ⟨bm_in (by omega) (by decide), bm_in (by omega) (by decide), ?_⟩
        have e := cp_l_s (w := w) (c := 76) (o := 0) (s := 63) (p := 0) (n := k) (Or.inl (by decide))
        rw [Nat.zero_add] at e
        rw [e]
        exact ih (k + 1) (by omega)
    have := key 236 0 (by omega)
    rw [cp_l_0] at this
    exact this
theorem qm_back (hw : bm_wfS K S) (h : by_S S w) (hq : ∀ w', by_fr [63, 71] [37, 38, 39, 40, 42] w w' → by_S (st_back S) w' → Q (br_back S) w') : bw_ri E (d + 8) mX12_back [.ref 50] w Q := by
  have hx := hw.2.1
  obtain ⟨h1, h2, h3, h4, h5, h6, h7⟩ := id h
  unfold st_back br_back at hq
  refine wfX12_back ?_
  rw [h5.1]
  cases e : st_I S with
  | none =>
    rw [e] at hq
    exact br_nf rfl (hq w (by_fr.rf _ _ _) h)
  | some p =>
    rw [e] at hq
    have t := hw.2.2.2.2.2.1 p e
    have t5 := h5.2 p e
    refine br_nt (by show ¬ nI (bm_b2 true) = 0; decide) ?_
    have key : ∀ n k, k + n = 236 → bw_G E (d + 8) mX12_back 11 [some (.ref 50), some (.int (nI k))] [] (cp_l w 63 0 76 0 k) (bw_qi Q) := by
      intro n
      induction n with
      | zero =>
        intro k hk
        have ek : k = 236 := by omega
        subst ek
        refine wfX12_back_11 (br_t (by decide) ?_)
        have fF : by_fr [63, 71] [37, 38, 39, 40, 42] w (sw_i (cp_l w 63 0 76 0 236) 50 42 0) := ((by_fr.rf _ _ _).cp (by decide) (by decide)).s5 (by decide)
        have h5' := h5.fr fF (by decide) (by decide)
        rw [e] at h5'
        have hS : by_S (st_t S, st_X S, p.1, p.2, [], some p, st_C S, st_R S) (sw_i (cp_l w 63 0 76 0 236) 50 42 0) := by
          refine ⟨h1.fr fF (by decide) (by decide), h2.fr fF (by decide) (by decide) (by decide), ?_, ⟨by rw [gs_ii, if_pos ⟨rfl, rfl⟩]; rfl, fun j hj => absurd hj (Nat.not_lt_zero j)⟩, h5', h6.fr fF (by decide) (by decide) (by decide) (by decide), h7.fr fF (by decide)⟩
          refine by_Sf_congr (fun i hi => ?_) t5
          rw [gs_li, cp_l_at, if_pos (by omega)]
          congr 1; omega
        refine ⟨Q, ys_many (d := d) hS.2.1 (by_N_iff.mpr hS.2.2.1.1) t.2.1.1 hx (fun w' f' => ?_), fun _ _ h => h⟩
        exact hq w' (fF.tr (f'.up (by decide) (by decide))) (by_S71 hS f')
      | succ n ih =>
        intro k hk
        refine wfX12_back_11 (br_f (nI_ge (a := k) (b := 236) (by omega) (by decide)) ?_)
        rw [nI_clamp (by omega), nI_1]
        refine ⟨bm_in (by omega) (by decide), bm_in (by omega) (by decide), ?_⟩
        have e := cp_l_s (w := w) (c := 63) (o := 0) (s := 76) (p := 0) (n := k) (Or.inl (by decide))
        rw [Nat.zero_add] at e
        rw [e]
        exact ih (k + 1) (by omega)
    have := key 236 0 (by omega)
    rw [cp_l_0] at this
    exact this
end PUB2
