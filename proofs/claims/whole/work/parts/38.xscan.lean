/-! the class's cursor -/
def bx_C (t : List Nat) (q : Nat) (w : bw_W) : Prop := ∃ p, gw_i w 3 1 = nI p ∧ p ≤ t.length ∧ bm_sk t p = q
theorem bx_T.fr {t : List Nat} {w w' : bw_W} {S : List Nat} (h : bx_T t w) (hf : bw_fr S w w') (h1 : 1 ∉ S) (h2 : 2 ∉ S) : bx_T t w' := ⟨by rw [hf.i h1]; exact h.1, fun i hi => by rw [hf.i h2]; exact h.2 i hi⟩
section XSCAN
variable {E : bw_E} {d : Nat} {w : bw_W} {t : List Nat}
theorem bx_T_b (hT : bx_T t w) {i : Nat} (h : i < t.length) : gw_i w 2 i = nI (bm_b t i) := hT.2 i h
theorem xs_skip {Q : bw_W → Prop} {p : Nat} (ht : bm_wfT t) (hT : bx_T t w) (hp : gw_i w 3 1 = nI p) (hl : p ≤ t.length) (hq : Q (sw_i w 3 1 (nI (bm_sk t p)))) : bw_rv E (d + 0) mX0_skipBlanks [.ref 3] w Q := by
  have h480 := ht.1
  have key : ∀ n p (w : bw_W), p + n = t.length → bx_T t w → gw_i w 3 1 = nI p → Q (sw_i w 3 1 (nI (bm_sk t p))) → bw_G E (d + 0) mX0_skipBlanks 0 [some (.ref 3)] [] w (bw_qv Q) := by
    intro n
    induction n with
    | zero =>
      intro p w hn hT hp hq
      have e : bm_sk t p = p := bm_e_f (by rw [bm_b_out (by omega)]; rfl)
      rw [e, sw_self hp] at hq
      refine wfX0_skipBlanks_0 (br_t ?_ hq)
      rw [hT.1, hp]; exact nI_le (by omega) (by omega)
    | succ n ih =>
      intro p w hn hT hp hq
      refine wfX0_skipBlanks_0 (br_f ?_ ?_)
      · rw [hT.1, hp]; exact nI_ge (by omega) (by omega)
      · have hb := bm_b_in ht (show p < t.length by omega)
        rw [hp, nI_clamp (by omega), bx_T_b hT (by omega), nI_1, show (32 : Int32) = nI 32 from rfl, nI_eq (by omega) (by decide)]
        refine ⟨bm_in (by omega) (by decide), fun z => ?_, fun z => ?_⟩
        · have e : bm_sk t p = p := bm_e_f (decide_eq_false z)
          rw [e, sw_self hp] at hq
          exact hq
        · refine ih (p + 1) _ (by omega) (hT.fr ((bw_fr.rf [3] w).si (by decide)) (by decide) (by decide)) (by rw [gs_ii, if_pos ⟨rfl, rfl⟩]) ?_
          rw [sw_ii]
          have e : bm_sk t p = bm_sk t (p + 1) := bm_e_t rfl (decide_eq_true z)
          rw [← e]; exact hq
  exact wfX0_skipBlanks (key (t.length - p) p w (by omega) hT hp hq)
theorem bm_sk_id {p : Nat} (h : p ≤ t.length) : bm_sk t (bm_sk t p) = bm_sk t p := bm_e_f (bm_e_st rfl h)
theorem bx_C_at {q : Nat} (h : q ≤ t.length) (hq : bm_sk t q = q) {w : bw_W} (e : gw_i w 3 1 = nI q) : bx_C t q w := ⟨q, e, h, hq⟩
/-- a place ahead of which no blank is left -/
def bm_pl (t : List Nat) (q : Nat) : Prop := q ≤ t.length ∧ bm_sk t q = q
theorem bm_pl_sk {p : Nat} (h : p ≤ t.length) : bm_pl t (bm_sk t p) := ⟨bm_e_le rfl h, bm_sk_id h⟩
theorem bx_C.pl {q : Nat} (h : bx_C t q w) : bm_pl t q := by
  obtain ⟨p, _, h2, rfl⟩ := h
  exact bm_pl_sk h2
theorem bx_C.fr {q : Nat} {S : List Nat} {w' : bw_W} (h : bx_C t q w) (hf : bw_fr S w w') (h3 : 3 ∉ S) : bx_C t q w' := by
  obtain ⟨p, h1, h2⟩ := h
  exact ⟨p, by rw [hf.i h3]; exact h1, h2⟩
theorem xs_atEnd {Q : Bool → bw_W → Prop} {q : Nat} (ht : bm_wfT t) (hT : bx_T t w) (hC : bx_C t q w) (hq : Q (decide (t.length ≤ q)) (sw_i w 3 1 (nI q))) : bw_rb E (d + 1) mX0_isAtEnd [.ref 3] w Q := by
  have h480 := ht.1
  have hpl := hC.pl.1
  obtain ⟨p, h1, h2, rfl⟩ := hC
  refine wfX0_isAtEnd ⟨fun w3 => sw_i w 3 1 (nI (bm_sk t p)) = w3, xs_skip ht hT h1 h2 rfl, ?_⟩
  rintro _ rfl
  rw [gs_ii, if_pos ⟨rfl, rfl⟩, gs_ii, if_neg (by decide), hT.1, nI_ltI (by omega) (by omega)]
  refine ⟨fun z => ?_, fun z => ?_⟩
  · rw [decide_eq_false (by omega)] at hq; exact hq
  · rw [decide_eq_true (by omega)] at hq; exact hq
theorem xs_sign {Q : Int32 → bw_W → Prop} {q : Nat} (ht : bm_wfT t) (hT : bx_T t w) (hC : bx_C t q w) (hq : Q (nI (bm_b t q)) (sw_i w 3 1 (nI q))) : bw_ri E (d + 1) mX0_nextSign [.ref 3] w Q := by
  have h480 := ht.1
  have hpl := hC.pl.1
  obtain ⟨p, h1, h2, rfl⟩ := hC
  refine wfX0_nextSign ⟨fun w3 => sw_i w 3 1 (nI (bm_sk t p)) = w3, xs_skip ht hT h1 h2 rfl, ?_⟩
  rintro _ rfl
  have hT' := hT.fr ((bw_fr.rf [3] w).si (c := 3) (k := 1) (v := nI (bm_sk t p)) (by decide)) (by decide) (by decide)
  have hb := bm_b_lt (bm_sk t p) ht
  rw [hT'.1, gs_ii, if_pos ⟨rfl, rfl⟩, nI_leI (by omega) (by omega), nI_clamp (by omega)]
  refine ⟨fun z => ?_, fun z => ⟨bm_in (by omega) (by decide), ?_⟩⟩
  · rw [bm_b_out z] at hq; exact hq
  · rw [bx_T_b hT' (by omega)]
    exact ⟨(pk_charN (by omega)).1, hq⟩
/-- what is left of a call that takes a word -/
theorem xs_word {Q : Bool → bw_W → Prop} {q : Nat} (ht : bm_wfT t) (hT : bx_T t w) (hC : bx_C t q w) (hf : bp_word t q = none → ∀ w', bw_fr [3] w w' → gw_i w' 3 3 = nI q → gw_i w' 3 2 = nI q → Q false w')
    (hq : ∀ u q', bp_word t q = some (u, q') → ∀ w', bw_fr [3] w w' → gw_i w' 3 2 = nI q → gw_i w' 3 1 = nI (q + u.length) → gw_l w' 3 5 = bx_w u → bx_C t q' w' → Q true w') : bw_rb E (d + 1) mX0_takeWord [.ref 3] w Q := by
  have h480 := ht.1
  have hpl := hC.pl
  obtain ⟨p, h1, h2, rfl⟩ := hC
  generalize hqe : bm_sk t p = q at *
  have hq0 := hpl.1
  have ele := bm_e_le (P := bm_lt) rfl hq0
  have ege := bm_e_ge (P := bm_lt) rfl hq0
  have ex : ∀ k (w' : bw_W), bm_e bm_lt t q = q + k → bw_fr [3] w w' → gw_i w' 3 2 = nI q → gw_i w' 3 1 = nI (q + k) → gw_l w' 3 5 = bx_w (bm_ls t q (min k 8)) → (((gw_i w' 3 1) ≤ (gw_i w' 3 2) → ((¬ False → Q false (sw_i w' 3 3 (gw_i w' 3 2))) ∧ (False → Q true (sw_i w' 3 3 (gw_i w' 3 2))))) ∧ (¬ ((gw_i w' 3 1) ≤ (gw_i w' 3 2)) → ((((gw_i w' 3 1) - (gw_i w' 3 2)) ≤ 8 → Q true w') ∧ (¬ (((gw_i w' 3 1) - (gw_i w' 3 2)) ≤ 8) → ((¬ False → Q false (sw_i w' 3 3 (gw_i w' 3 2))) ∧ (False → Q true (sw_i w' 3 3 (gw_i w' 3 2)))))))) := by
    intro k w' he hfr g2 g1 g5
    have bad : bp_word t q = none → Q false (sw_i w' 3 3 (nI q)) := fun hn => hf hn _ (hfr.si (by decide)) (by rw [gs_ii, if_pos ⟨rfl, rfl⟩]) (by rw [gs_ii, if_neg (by decide)]; exact g2)
    rw [g1, g2, nI_leI (by omega) (by omega), pk_sub (by omega), nl_8, nI_leI (by omega) (by decide)]
    refine ⟨fun z => ⟨fun _ => bad ?_, fun y => y.elim⟩, fun z => ⟨fun y => ?_, fun y => ⟨fun _ => bad ?_, fun x => x.elim⟩⟩⟩
    · unfold bp_word; rw [if_neg (by omega)]
    · have hs : bp_word t q = some (bm_ls t q k, bm_sk t (q + k)) := by
        unfold bp_word; rw [if_pos (by omega), he, show q + k - q = k by omega]
      refine hq _ _ hs w' hfr g2 (by rw [bm_ls_len]; exact g1) ?_ ⟨q + k, g1, by omega, rfl⟩
      rw [g5, Nat.min_eq_left (by omega)]
    · unfold bp_word; rw [if_neg (by omega)]
  have key : ∀ n k (w' : bw_W), q + k + n = t.length → bm_e bm_lt t (q + k) = bm_e bm_lt t q → bw_fr [3] w w' → gw_i w' 3 2 = nI q → gw_i w' 3 1 = nI (q + k) → gw_l w' 3 5 = bx_w (bm_ls t q (min k 8)) → bw_G E (d + 1) mX0_takeWord 17 [some (.ref 3), none] [] w' (bw_qb Q) := by
    intro n
    induction n with
    | zero =>
      intro k w' hn he hfr g2 g1 g5
      have e2 : bm_e bm_lt t (q + k) = q + k := bm_e_f (by rw [bm_b_out (by omega)]; rfl)
      refine wfX0_takeWord_17 (br_t ?_ (ex k w' (by omega) hfr g2 g1 g5))
      rw [hfr.i (by decide), hT.1, g1]; exact nI_le (by omega) (by omega)
    | succ n ih =>
      intro k w' hn he hfr g2 g1 g5
      have hT' := hT.fr hfr (by decide) (by decide)
      have hb := bm_b_in ht (show q + k < t.length by omega)
      refine wfX0_takeWord_17 (br_f ?_ ?_)
      · rw [hT'.1, g1]; exact nI_ge (by omega) (by omega)
      · have hin : vp_in (gw_i w' 3 1) 480 := by rw [g1]; exact bm_in (by omega) (by decide)
        have gb : gw_i w' 2 ((gw_i w' 3 1).toNatClampNeg) = nI (bm_b t (q + k)) := by rw [g1, nI_clamp (by omega)]; exact bx_T_b hT' (by omega)
        rw [gb]
        refine ⟨hin, ?_, ?_⟩
        · intro z
          rw [show (97 : Int32) = nI 97 from rfl, nI_ltI (by omega) (by decide)] at z
          exact ex k w' (by rw [← he]; exact bm_e_f (decide_eq_false (by omega))) hfr g2 g1 g5
        · intro z
          rw [show (97 : Int32) = nI 97 from rfl, nI_ltI (by omega) (by decide)] at z
          refine ⟨hin, ?_, ?_⟩
          · intro y
            rw [show (122 : Int32) = nI 122 from rfl, nI_ltI (by decide) (by omega)] at y
            exact ex k w' (by rw [← he]; exact bm_e_f (decide_eq_false (by omega))) hfr g2 g1 g5
          · intro y
            rw [show (122 : Int32) = nI 122 from rfl, nI_ltI (by decide) (by omega)] at y
            have hl : bm_lt (bm_b t (q + k)) = true := decide_eq_true (by omega)
            have he' : bm_e bm_lt t (q + (k + 1)) = bm_e bm_lt t q := by rw [← he, bm_e_t rfl hl]; rfl
            rw [g1, g2, pk_sub (by omega), show q + k - q = k by omega, nI_1]
            rw [nl_8, nI_leI (by decide) (by omega)]
            refine ⟨fun x => ?_, fun x => ⟨bm_in (by omega) (by decide), ?_⟩⟩
            · refine ih (k + 1) _ (by omega) he' (hfr.si (by decide)) (by rw [gs_ii, if_neg (by decide)]; exact g2) (by rw [gs_ii, if_pos ⟨rfl, rfl⟩]; rfl) ?_
              rw [gs_li, g5, Nat.min_eq_right (by omega), Nat.min_eq_right (by omega)]
            · refine ih (k + 1) _ (by omega) he' ((hfr.sl (by decide)).si (by decide)) (by rw [gs_ii, if_neg (by decide), gs_il]; exact g2) (by rw [gs_ii, if_pos ⟨rfl, rfl⟩]; rfl) ?_
              have hge := bm_e_ge (P := bm_lt) (t := t) (p := q + (k + 1)) rfl (by omega)
              have hok := bm_ls_ok hq0 k (by omega)
              rw [gs_li, gs_ll, if_pos ⟨rfl, rfl⟩, g5, Nat.min_eq_left (by omega), Nat.min_eq_left (by omega), bm_ls]
              have hadd := bx_w_add (u := bm_ls t q k) (x := bm_b t (q + k) - 96) hok (by rw [bm_ls_len]; omega) (by omega)
              rw [bm_ls_len, show 96 + (bm_b t (q + k) - 96) = bm_b t (q + k) by omega, nl_8] at hadd
              exact hadd
  refine wfX0_takeWord ⟨fun w3 => sw_i w 3 1 (nI q) = w3, xs_skip ht hT h1 h2 (by rw [hqe]), ?_⟩
  rintro _ rfl
  rw [gs_ii, if_pos ⟨rfl, rfl⟩]
  exact key (t.length - q) 0 _ (by omega) rfl ((((bw_fr.rf _ _).si (by decide)).si (by decide)).sl (by decide)) (by rw [gs_il, gs_ii, if_pos ⟨rfl, rfl⟩]) (by rw [gs_il, gs_ii, if_neg (by decide), gs_ii, if_pos ⟨rfl, rfl⟩]; rfl) (by rw [gs_ll, if_pos ⟨rfl, rfl⟩]; rfl)
theorem bm_dv_lt {q : Nat} (hq : q ≤ t.length) : ∀ n, n ≤ bm_e bm_dg t q - q → bm_dv t q n < 10 ^ n
  | 0, _ => (by decide : 0 < 10 ^ 0)
  | n + 1, h => by
    have ih := bm_dv_lt hq n (by omega)
    have := of_decide_eq_true (bm_e_all (P := bm_dg) rfl hq (i := q + n) (by omega) (by omega))
    rw [bm_dv, Nat.pow_succ]; omega
theorem xs_num {Q : Bool → bw_W → Prop} {q m hi : Nat} (hm : m ≤ 2) (hhi : hi < 1000) (ht : bm_wfT t) (hT : bx_T t w) (hC : bx_C t q w) (hf : bp_num t q m hi = none → ∀ w', bw_fr [3] w w' → gw_i w' 3 3 = nI q → Q false w')
    (hq : ∀ v q', bp_num t q m hi = some (v, q') → ∀ w', bw_fr [3] w w' → gw_i w' 3 2 = nI q → gw_i w' 3 4 = nI v → bx_C t q' w' → Q true w') : bw_rb E (d + 1) mX0_takeNumber [.ref 3, .int (nI m), .int (nI hi)] w Q := by
  have h480 := ht.1
  have hpl := hC.pl
  obtain ⟨p, h1, h2, rfl⟩ := hC
  generalize hqe : bm_sk t p = q at *
  have hq0 := hpl.1
  have ele := bm_e_le (P := bm_dg) rfl hq0
  have ege := bm_e_ge (P := bm_dg) rfl hq0
  have ex : ∀ k (w' : bw_W), bm_e bm_dg t q = q + k → bw_fr [3] w w' → gw_i w' 3 2 = nI q → gw_i w' 3 1 = nI (q + k) → gw_i w' 3 4 = nI (bm_dv t q (min k m)) → (((gw_i w' 3 1) ≤ (gw_i w' 3 2) → ((¬ False → Q false (sw_i w' 3 3 (gw_i w' 3 2))) ∧ (False → Q true (sw_i w' 3 3 (gw_i w' 3 2))))) ∧ (¬ ((gw_i w' 3 1) ≤ (gw_i w' 3 2)) → ((nI m < ((gw_i w' 3 1) - (gw_i w' 3 2)) → ((¬ False → Q false (sw_i w' 3 3 (gw_i w' 3 2))) ∧ (False → Q true (sw_i w' 3 3 (gw_i w' 3 2))))) ∧ (¬ (nI m < ((gw_i w' 3 1) - (gw_i w' 3 2))) → ((nI hi < (gw_i w' 3 4) → ((¬ False → Q false (sw_i w' 3 3 (gw_i w' 3 2))) ∧ (False → Q true (sw_i w' 3 3 (gw_i w' 3 2))))) ∧ (¬ (nI hi < (gw_i w' 3 4)) → Q true w')))))) := by
    intro k w' he hfr g2 g1 g4
    have hdv := bm_dv_lt hq0 (min k m) (by omega)
    have h100 : 10 ^ (min k m) ≤ 10 ^ 2 := Nat.pow_le_pow_right (by decide) (by omega)
    have bad : bp_num t q m hi = none → Q false (sw_i w' 3 3 (nI q)) := fun hn => hf hn _ (hfr.si (by decide)) (by rw [gs_ii, if_pos ⟨rfl, rfl⟩])
    rw [g1, g2, g4, nI_leI (by omega) (by omega), pk_sub (by omega), show q + k - q = k by omega, nI_ltI (by omega) (by omega), nI_ltI (by omega) (by omega)]
    refine ⟨fun z => ⟨fun _ => bad ?_, fun y => y.elim⟩, fun z => ⟨fun y => ⟨fun _ => bad ?_, fun x => x.elim⟩, fun y => ⟨fun x => ⟨fun _ => bad ?_, fun v => v.elim⟩, fun x => ?_⟩⟩⟩
    · unfold bp_num; rw [if_neg (by omega)]
    · unfold bp_num; rw [if_neg (by omega)]
    · unfold bp_num
      rw [he, show q + k - q = k by omega]
      rw [Nat.min_eq_left (by omega)] at x
      rw [if_neg (by omega)]
    · rw [Nat.min_eq_left (by omega)] at x g4
      have hs : bp_num t q m hi = some (bm_dv t q k, bm_sk t (q + k)) := by
        unfold bp_num; rw [he, show q + k - q = k by omega, if_pos (by omega)]
      exact hq _ _ hs w' hfr g2 g4 ⟨q + k, g1, by omega, rfl⟩
  have key : ∀ n k (w' : bw_W), q + k + n = t.length → bm_e bm_dg t (q + k) = bm_e bm_dg t q → bw_fr [3] w w' → gw_i w' 3 2 = nI q → gw_i w' 3 1 = nI (q + k) → gw_i w' 3 4 = nI (bm_dv t q (min k m)) → bw_G E (d + 1) mX0_takeNumber 17 [some (.ref 3), some (.int (nI m)), some (.int (nI hi)), none] [] w' (bw_qb Q) := by
    intro n
    induction n with
    | zero =>
      intro k w' hn he hfr g2 g1 g4
      have e2 : bm_e bm_dg t (q + k) = q + k := bm_e_f (by rw [bm_b_out (by omega)]; rfl)
      refine wfX0_takeNumber_17 (br_t ?_ (ex k w' (by omega) hfr g2 g1 g4))
      rw [hfr.i (by decide), hT.1, g1]; exact nI_le (by omega) (by omega)
    | succ n ih =>
      intro k w' hn he hfr g2 g1 g4
      have hT' := hT.fr hfr (by decide) (by decide)
      have hb := bm_b_in ht (show q + k < t.length by omega)
      refine wfX0_takeNumber_17 (br_f ?_ ?_)
      · rw [hT'.1, g1]; exact nI_ge (by omega) (by omega)
      · have hin : vp_in (gw_i w' 3 1) 480 := by rw [g1]; exact bm_in (by omega) (by decide)
        have gb : gw_i w' 2 ((gw_i w' 3 1).toNatClampNeg) = nI (bm_b t (q + k)) := by rw [g1, nI_clamp (by omega)]; exact bx_T_b hT' (by omega)
        rw [gb]
        refine ⟨hin, ?_, ?_⟩
        · intro z
          rw [nl_48, nI_ltI (by omega) (by decide)] at z
          exact ex k w' (by rw [← he]; exact bm_e_f (decide_eq_false (by omega))) hfr g2 g1 g4
        · intro z
          rw [nl_48, nI_ltI (by omega) (by decide)] at z
          refine ⟨hin, ?_, ?_⟩
          · intro y
            rw [show (57 : Int32) = nI 57 from rfl, nI_ltI (by decide) (by omega)] at y
            exact ex k w' (by rw [← he]; exact bm_e_f (decide_eq_false (by omega))) hfr g2 g1 g4
          · intro y
            rw [show (57 : Int32) = nI 57 from rfl, nI_ltI (by decide) (by omega)] at y
            have hl : bm_dg (bm_b t (q + k)) = true := decide_eq_true (by omega)
            have he' : bm_e bm_dg t (q + (k + 1)) = bm_e bm_dg t q := by rw [← he, bm_e_t rfl hl]; rfl
            rw [g1, g2, pk_sub (by omega), show q + k - q = k by omega, nI_1]
            rw [nI_leI (by omega) (by omega)]
            refine ⟨fun x => ?_, fun x => ⟨bm_in (by omega) (by decide), ?_⟩⟩
            · refine ih (k + 1) _ (by omega) he' (hfr.si (by decide)) (by rw [gs_ii, if_neg (by decide)]; exact g2) (by rw [gs_ii, if_pos ⟨rfl, rfl⟩]; rfl) ?_
              rw [gs_ii, if_neg (by decide), g4, Nat.min_eq_right (by omega), Nat.min_eq_right (by omega)]
            · refine ih (k + 1) _ (by omega) he' ((hfr.si (by decide)).si (by decide)) (by rw [gs_ii, if_neg (by decide), gs_ii, if_neg (by decide)]; exact g2) (by rw [gs_ii, if_pos ⟨rfl, rfl⟩]; rfl) ?_
              rw [gs_ii, if_neg (by decide), gs_ii, if_pos ⟨rfl, rfl⟩, g4, Nat.min_eq_left (by omega), Nat.min_eq_left (by omega), bm_dv, show (10 : Int32) = nI 10 from rfl, pk_mul, nI_add, nl_48, pk_sub (by omega)]
              congr 1; omega
  refine wfX0_takeNumber ⟨fun w3 => sw_i w 3 1 (nI q) = w3, xs_skip ht hT h1 h2 (by rw [hqe]), ?_⟩
  rintro _ rfl
  rw [gs_ii, if_pos ⟨rfl, rfl⟩]
  exact key (t.length - q) 0 _ (by omega) rfl ((((bw_fr.rf _ _).si (by decide)).si (by decide)).si (by decide)) (by rw [gs_ii, if_neg (by decide), gs_ii, if_pos ⟨rfl, rfl⟩]) (by rw [gs_ii, if_neg (by decide), gs_ii, if_neg (by decide), gs_ii, if_pos ⟨rfl, rfl⟩]; rfl) (by rw [gs_ii, if_pos ⟨rfl, rfl⟩, Nat.zero_min]; rfl)
end XSCAN
