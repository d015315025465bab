/-! rule, noun: how many words -/
/-- forms behind the nouns are none -/
def bm_wfF (X : bm_X) (N : bm_N) : Prop := ∀ i, 8 * bm_nn X ≤ i → i < 48 → bm_frm N i = []
/-- how many words there are in a row of n from k on -/
def bm_wc (f : Nat → List Nat) (k n : Nat) : Nat := fa_cnt (fun j => decide (f (k + j) ≠ [])) n
theorem bm_wc_le (f : Nat → List Nat) (k n : Nat) : bm_wc f k n ≤ n := fa_cnt_le _ n
theorem bm_wc_0 (f : Nat → List Nat) (k : Nat) : bm_wc f k 0 = 0 := rfl
theorem bm_wc_s (f : Nat → List Nat) (k n : Nat) : bm_wc f k (n + 1) = bm_wc f k n + if f (k + n) = [] then 0 else 1 := by
  unfold bm_wc
  by_cases e : f (k + n) = []
  · rw [fa_cnt_no (by simp [e]), if_pos e]; rfl
  · rw [fa_cnt_yes (by simp [e]), if_neg e]
theorem bm_wc_app (f : Nat → List Nat) (k m : Nat) : ∀ n, bm_wc f k (m + n) = bm_wc f k m + bm_wc f (k + m) n
  | 0 => rfl
  | n + 1 => by rw [← Nat.add_assoc, bm_wc_s, bm_wc_s, bm_wc_app f k m n, ← Nat.add_assoc]; omega
theorem bm_wc_no {f : Nat → List Nat} {k : Nat} : ∀ n, (∀ j, j < n → f (k + j) = []) → bm_wc f k n = 0
  | 0, _ => rfl
  | n + 1, h => by rw [bm_wc_s, bm_wc_no n (fun j hj => h j (by omega)), if_pos (h n (by omega))]
/-- forms told of the nouns below n -/
def bm_ft (N : bm_N) : Nat → Nat
  | 0 => 0
  | n + 1 => bm_ft N n + bm_wc (bm_frm N) (8 * n) 8
theorem bm_ft_wc (N : bm_N) : ∀ n, bm_ft N n = bm_wc (bm_frm N) 0 (8 * n)
  | 0 => rfl
  | n + 1 => by rw [bm_ft, bm_ft_wc N n, Nat.mul_succ, bm_wc_app, Nat.zero_add]
theorem bm_ft_48 {X : bm_X} {N : bm_N} (hx : bm_wfX X) (hF : bm_wfF X N) : bm_ft N (bm_nn X) = bm_wc (bm_frm N) 0 48 := by
  have h6 := hx.1
  rw [bm_ft_wc, show 48 = 8 * bm_nn X + (48 - 8 * bm_nn X) by omega, bm_wc_app, bm_wc_no (48 - 8 * bm_nn X) (fun j hj => hF _ (by omega) (by omega))]
  rfl
def br_rule (X : bm_X) (N : bm_N) (a0 : Int32) : Int32 := if bm_nn X = 0 then -1 else if a0 = 0 then nI (bm_nn X) else if a0 = 1 then nI (bm_nm X) else if a0 = 2 then nI (bm_wc (bm_wds X) 0 24) else if a0 = 3 then nI (bm_wc (bm_wds X) 24 24) else if a0 = 4 then nI (bm_wc (bm_frm N) 0 48) else if a0 = 5 then nI (bm_b2 (bm_str N)) else if a0 = 6 then nI (bm_bits X N (bm_nm X)) else -1
section RULE
variable {E : bw_E} {d : Nat} {w : bw_W} {X : bm_X} {N : bm_N} {Q : Int32 → bw_W → Prop}
theorem xs_words {ta tn k n : Nat} {f : Nat → List Nat} (hs : bw_sh ta = (2, tn, 0)) (hkn : k + n ≤ tn) (htn : tn < 1000) (hf : ∀ j, j < n → gw_l w ta (k + j) = bx_w (f (k + j)) ∧ bm_ok (f (k + j))) (hq : Q (nI (bm_wc f k n)) w) : bw_ri E (d + 0) mX11_wordsIn [.ref ta, .int (nI k), .int (nI (k + n))] w Q := by
  have key : ∀ m j, j + m = n → bw_G E (d + 0) mX11_wordsIn 5 [some (.ref ta), some (.int (nI k)), some (.int (nI (k + n))), some (.int (nI (bm_wc f k j))), some (.int (nI (k + j)))] [] w (bw_qi Q) := by
    intro m
    induction m with
    | zero =>
      intro j hj
      have e : j = n := by omega
      subst e
      exact wfX11_wordsIn_5 hs (br_t (Int32.le_refl _) hq)
    | succ m ih =>
      intro j hj
      have IH := ih (j + 1) (by omega)
      refine wfX11_wordsIn_5 hs (br_f (nI_ge (by omega) (by omega)) (br_f (nI_ge (by omega) (by omega)) ⟨bm_in (by omega) (by omega), ?_⟩))
      obtain ⟨h1, h2⟩ := hf j (by omega)
      rw [nI_clamp (by omega), h1, nI_1, nI_1, bx_w0 h2]
      rw [bm_wc_s] at IH
      refine ⟨fun z => ?_, fun z => ?_⟩
      · rw [if_pos z] at IH; exact IH
      · rw [if_neg z] at IH; exact IH
  exact wfX11_wordsIn hs (key n 0 (by omega))
theorem xs_ft (hN : bx_N N w) (hW : bm_wfN X N) {n : Nat} (hn : n < 6) (hq : Q (nI (bm_wc (bm_frm N) (8 * n) 8)) w) : bw_ri E (d + 1) mX11_formsToldOf [.ref 0, .int (nI n)] w Q := by
  refine wfX11_formsToldOf ?_
  rw [nI_1, nl_8, pk_mul, pk_mul, show (n + 1) * 8 = 8 * n + 8 by omega, Nat.mul_comm n 8]
  exact ⟨Q, xs_words (f := bm_frm N) (tn := 52) rfl (by omega) (by omega) (fun j hj => ⟨hN.1 _ (by omega), hW.1 _ (by omega)⟩) hq, fun _ _ h => h⟩
theorem ys_words {k : Nat} (hX : by_X X w) (hx : bm_wfX X) (hk : k ≤ 24) (hq : Q (nI (bm_wc (bm_wds X) k 24)) w) : bw_ri E (d + 0) mX12_wordsTold [.ref 50, .int (nI k)] w Q := by
  have key : ∀ m j, j + m = 24 → bw_G E (d + 0) mX12_wordsTold 4 [some (.ref 50), some (.int (nI k)), some (.int (nI (bm_wc (bm_wds X) k j))), some (.int (nI j))] [] w (bw_qi Q) := by
    intro m
    induction m with
    | zero =>
      intro j hj
      have e : j = 24 := by omega
      subst e
      exact wfX12_wordsTold_4 (br_t (by decide) hq)
    | succ m ih =>
      intro j hj
      have IH := ih (j + 1) (by omega)
      refine wfX12_wordsTold_4 (br_f (nI_ge (a := j) (b := 24) (by omega) (by decide)) ?_)
      rw [nI_add, nI_1, nI_1, Int32.add_zero, nI_clamp (by omega), hX.2.2.2.1 _ (by omega), by_w0 (hx.2.2.2.1 _ (by omega))]
      rw [bm_wc_s] at IH
      refine ⟨bm_in (by omega) (by decide), fun z => ?_, fun z => ?_⟩
      · rw [if_pos z] at IH; exact IH
      · rw [if_neg z] at IH; exact IH
  exact wfX12_wordsTold (key 24 0 (by omega))
theorem ys_ft (hN : by_N N w) (hW : bm_wfN X N) {n : Nat} (hn : n < 6) (hq : Q (nI (bm_wc (bm_frm N) (8 * n) 8)) w) : bw_ri E (d + 0) mX12_formsOf [.ref 50, .int (nI n)] w Q := by
  have key : ∀ m j, j + m = 8 → bw_G E (d + 0) mX12_formsOf 4 [some (.ref 50), some (.int (nI n)), some (.int (nI (bm_wc (bm_frm N) (8 * n) j))), some (.int (nI j))] [] w (bw_qi Q) := by
    intro m
    induction m with
    | zero =>
      intro j hj
      have e : j = 8 := by omega
      subst e
      exact wfX12_formsOf_4 (br_t (by decide) hq)
    | succ m ih =>
      intro j hj
      have IH := ih (j + 1) (by omega)
      refine wfX12_formsOf_4 (br_f (nI_ge (a := j) (b := 8) (by omega) (by decide)) ?_)
      rw [nl_7, nl_8, pk_mul, nI_add, nI_add, nI_1, nI_1, Int32.add_zero, nI_clamp (by omega), Nat.add_assoc, hN.1 _ (by omega), by_w0 (hW.1 _ (by omega))]
      rw [bm_wc_s] at IH
      refine ⟨bm_in (by omega) (by decide), fun z => ?_, fun z => ?_⟩
      · rw [if_pos z] at IH; exact IH
      · rw [if_neg z] at IH; exact IH
  exact wfX12_formsOf (key 8 0 (by omega))
theorem bm_ft_le (N : bm_N) : ∀ n, bm_ft N n ≤ 8 * n
  | 0 => Nat.le_refl _
  | n + 1 => by
    have := bm_ft_le N n
    have := bm_wc_le (bm_frm N) (8 * n) 8
    rw [bm_ft]; omega
theorem ys_fts (hX : by_X X w) (hx : bm_wfX X) (hN : by_N N w) (hW : bm_wfN X N) (hq : Q (nI (bm_ft N (bm_nn X))) w) : bw_ri E (d + 1) mX12_formsTold [.ref 50] w Q := by
  have h6 := hx.1
  have key : ∀ m j, j + m = bm_nn X → bw_G E (d + 1) mX12_formsTold 4 [some (.ref 50), some (.int (nI (bm_ft N j))), some (.int (nI j))] [] w (bw_qi Q) := by
    intro m
    induction m with
    | zero =>
      intro j hj
      have e : j = bm_nn X := by omega
      subst e
      refine wfX12_formsTold_4 (br_t ?_ hq)
      rw [hX.1]; exact Int32.le_refl _
    | succ m ih =>
      intro j hj
      have IH := ih (j + 1) (by omega)
      refine wfX12_formsTold_4 (br_f ?_ ⟨fun v w3 => nI (bm_wc (bm_frm N) (8 * j) 8) = v ∧ w = w3, ys_ft hN hW (by omega) ⟨rfl, rfl⟩, ?_⟩)
      · rw [hX.1]; exact nI_ge (by omega) (by omega)
      · rintro _ _ ⟨rfl, rfl⟩
        rw [nI_add, nI_1]
        exact IH
  exact wfX12_formsTold (key (bm_nn X) 0 (by omega))
theorem bm_sw {a : Int32} {n k : Nat} (hk : k < 2 ^ 31) (hn : n < 2 ^ 31) (h : bm_ix a n = some k) : a = nI k := (bm_ix_some h).2
theorem bm_ix_not {a : Int32} {n : Nat} (hn : n < 2 ^ 31) (h : bm_ix a (n + 1) = none) : (a.toInt < 0 ∨ (n : Int) < a.toInt) := by
  unfold bm_ix at h
  split at h
  · cases h
  · omega
/-- a number told apart by the first few -/
theorem bm_cs7 {a : Int32} : (a = 0 ∨ a = 1 ∨ a = 2 ∨ a = 3 ∨ a = 4 ∨ a = 5 ∨ a = 6) ∨ ((a.toInt < 0 ∨ 6 < a.toInt) ∧ a ≠ 0 ∧ a ≠ 1 ∧ a ≠ 2 ∧ a ≠ 3 ∧ a ≠ 4 ∧ a ≠ 5 ∧ a ≠ 6) := by
  have e0 : (0 : Int32).toInt = 0 := rfl
  have e1 : (1 : Int32).toInt = 1 := rfl
  have e2 : (2 : Int32).toInt = 2 := rfl
  have e3 : (3 : Int32).toInt = 3 := rfl
  have e4 : (4 : Int32).toInt = 4 := rfl
  have e5 : (5 : Int32).toInt = 5 := rfl
  have e6 : (6 : Int32).toInt = 6 := rfl
  simp only [Ne, fa_eq, e0, e1, e2, e3, e4, e5, e6]
  omega
theorem qx_rule {a0 : Int32} (hX : bx_X X w) (hH : bx_H X w) (hN : bx_N N w) (hW : bm_wfN X N) (hx : bm_wfX X) (hq : ∀ w', bw_fr [35] w w' → Q (br_rule X N a0) w') : bw_ri E (d + 5) mX11_rule [.ref 0, .int a0] w Q := by
  have q0 := hq w (bw_fr.rf _ _)
  refine wfX11_rule ?_
  rw [bx_H0 hH]
  unfold br_rule at hq q0
  refine ⟨fun z => ?_, fun z => ?_⟩
  · rw [if_neg z] at hq q0
    refine ⟨fun e => ?_, fun e => ?_, fun e => ?_, fun e => ?_, fun e => ?_, fun e => ?_, fun e => ?_, fun e => ?_⟩
    · rw [if_pos e] at q0; rw [hX.1]; exact q0
    · subst e; rw [if_neg (by decide), if_pos rfl] at q0; rw [hX.2.1]; exact q0
    · subst e; rw [if_neg (by decide), if_neg (by decide), if_pos rfl] at q0
      exact ⟨Q, xs_words (d := d + 4) (f := bm_wds X) (k := 0) (n := 24) (tn := 24) rfl (by omega) (by omega) (fun j hj => ⟨by rw [Nat.zero_add]; exact (hX.2.2.2.1 j hj).1, hx.2.2.2.1 _ (by omega)⟩) q0, fun _ _ h => h⟩
    · subst e; rw [if_neg (by decide), if_neg (by decide), if_neg (by decide), if_pos rfl] at q0
      have q1 : Q (nI (bm_wc (fun j => bm_wds X (24 + j)) 0 24)) w := by
        have e2 : bm_wc (fun j => bm_wds X (24 + j)) 0 24 = bm_wc (bm_wds X) 24 24 := by
          unfold bm_wc
          exact fa_cnt_cong (fun k _ => by rw [Nat.zero_add])
        rw [e2]; exact q0
      exact ⟨Q, xs_words (d := d + 4) (f := fun j => bm_wds X (24 + j)) (k := 0) (n := 24) (tn := 24) rfl (by omega) (by omega) (fun j hj => ⟨by rw [Nat.zero_add]; exact (hX.2.2.2.1 j hj).2, hx.2.2.2.1 _ (by omega)⟩) q1, fun _ _ h => h⟩
    · subst e; rw [if_neg (by decide), if_neg (by decide), if_neg (by decide), if_neg (by decide), if_pos rfl] at q0
      exact ⟨Q, xs_words (d := d + 4) (f := bm_frm N) (k := 0) (n := 48) (tn := 52) rfl (by omega) (by omega) (fun j hj => ⟨hN.1 _ (by omega), hW.1 _ (by omega)⟩) q0, fun _ _ h => h⟩
    · subst e; rw [if_neg (by decide), if_neg (by decide), if_neg (by decide), if_neg (by decide), if_neg (by decide), if_pos rfl] at q0
      rw [hN.2.2, bm_b20]
      cases hs : bm_str N <;> rw [hs] at q0
      · exact ⟨fun _ => q0, fun c => absurd rfl c⟩
      · exact ⟨fun c => absurd (fun z => by cases z) c, fun _ => q0⟩
    · subst e; rw [if_neg (by decide), if_neg (by decide), if_neg (by decide), if_neg (by decide), if_neg (by decide), if_neg (by decide), if_pos rfl] at hq
      exact ⟨Q, xs_bits (d := d) hX hN hW hx hq, fun _ _ h => h⟩
    · rcases bm_cs7 (a := a0) with c | ⟨_, c0, c1, c2, c3, c4, c5, c6⟩
      · rcases c with rfl | rfl | rfl | rfl | rfl | rfl | rfl <;> exact absurd e (by decide)
      · rw [if_neg c0, if_neg c1, if_neg c2, if_neg c3, if_neg c4, if_neg c5, if_neg c6] at q0; exact q0
  · rw [if_pos z] at q0; exact q0
theorem qm_rule {a0 : Int32} (hX : by_X X w) (hN : by_N N w) (hW : bm_wfN X N) (hF : bm_wfF X N) (hx : bm_wfX X) (hq : ∀ w', by_fr [71] [37, 38, 39, 40] w w' → Q (br_rule X N a0) w') : bw_ri E (d + 7) mX12_rule [.ref 50, .int a0] w Q := by
  have q0 := hq w (by_fr.rf _ _ _)
  refine wfX12_rule ?_
  rw [by_H0 hX hx]
  unfold br_rule at hq q0
  refine ⟨fun z => ?_, fun z => ?_⟩
  · rw [if_pos (Classical.not_not.mp z)] at q0; exact q0
  · rw [if_neg z] at hq q0
    rw [nl_6, bm_k_iff (n := 7) rfl (by decide)]
    refine ⟨fun y => ⟨fun e => ?_, fun e => ?_, fun e => ?_, fun e => ?_, fun e => ?_, fun e => ?_, fun e => ?_⟩, fun y => ?_⟩
    · rw [if_pos e] at q0; rw [hX.1]; exact q0
    · subst e; rw [if_neg (by decide), if_pos rfl] at q0; rw [hX.2.1]; exact q0
    · subst e; rw [if_neg (by decide), if_neg (by decide), if_pos rfl] at q0
      exact ⟨Q, ys_words (d := d + 6) (k := 0) hX hx (by omega) q0, fun _ _ h => h⟩
    · subst e; rw [if_neg (by decide), if_neg (by decide), if_neg (by decide), if_pos rfl] at q0
      exact ⟨Q, ys_words (d := d + 6) (k := 24) hX hx (by omega) q0, fun _ _ h => h⟩
    · subst e; rw [if_neg (by decide), if_neg (by decide), if_neg (by decide), if_neg (by decide), if_pos rfl, ← bm_ft_48 hx hF] at q0
      exact ⟨Q, ys_fts (d := d + 5) hX hx hN hW q0, fun _ _ h => h⟩
    · subst e; rw [if_neg (by decide), if_neg (by decide), if_neg (by decide), if_neg (by decide), if_neg (by decide), if_pos rfl] at q0
      rw [hN.2.2, lN_i]; exact q0
    · rcases bm_cs7 (a := a0) with c | ⟨c, _⟩
      · rcases c with rfl | rfl | rfl | rfl | rfl | rfl | rfl
        · exact absurd e (by decide)
        · exact absurd e (by decide)
        · exact absurd e (by decide)
        · exact absurd e (by decide)
        · exact absurd e (by decide)
        · exact absurd e (by decide)
        · rw [if_neg (by decide), if_neg (by decide), if_neg (by decide), if_neg (by decide), if_neg (by decide), if_neg (by decide), if_pos rfl] at hq
          exact ⟨Q, ys_bits (d := d) hX hN hW hx hq, fun _ _ h => h⟩
      · refine absurd ?_ y
        unfold bm_ix
        rw [if_neg (by omega)]
    · have y' := bm_ix_not (n := 6) (by decide) (Classical.not_not.mp y)
      rcases bm_cs7 (a := a0) with c | ⟨c, c0, c1, c2, c3, c4, c5, c6⟩
      · rcases c with rfl | rfl | rfl | rfl | rfl | rfl | rfl <;> exact absurd y' (by decide)
      · rw [if_neg c0, if_neg c1, if_neg c2, if_neg c3, if_neg c4, if_neg c5, if_neg c6] at q0; exact q0
/-- what noun answers: none where it throws -/
def br_noun (X : bm_X) (N : bm_N) (a0 a1 : Int32) : Option Nat := match bm_ix a0 (bm_nn X), bm_ix a1 3 with
  | some n, some v => some (if v = 0 then bm_knd X n else if v = 1 then (bm_nam X n).length else bm_wc (bm_frm N) (8 * n) 8)
  | _, _ => none
theorem qm_noun {a0 a1 : Int32} (hX : by_X X w) (hN : by_N N w) (hW : bm_wfN X N) (hx : bm_wfX X) (hq : match br_noun X N a0 a1 with
    | none => Q 0 (sw_i w 50 0 1)
    | some v => Q (nI v) (sw_i w 50 0 0)) : bw_ri E (d + 2) mX12_noun [.ref 50, .int a0, .int a1] w Q := by
  have h6 := hx.1
  have hf : ∀ v, by_fr [] [0] w (sw_i w 50 0 v) := fun v => (by_fr.rf _ _ _).s5 (by decide)
  refine wfX12_noun ?_
  rw [hX.1, bm_m_iff (by omega), nl_2, bm_k_iff (n := 3) rfl (by decide)]
  unfold br_noun at hq
  cases e0 : bm_ix a0 (bm_nn X) with
  | none => rw [e0] at hq; exact br_nt (fun q => q rfl) hq
  | some n =>
    rw [e0] at hq
    obtain ⟨g0, rfl⟩ := bm_ix_some e0
    refine br_nf (by simp) ?_
    cases e1 : bm_ix a1 3 with
    | none => rw [e1] at hq; exact br_nt (fun q => q rfl) hq
    | some v =>
      rw [e1] at hq
      obtain ⟨g1, rfl⟩ := bm_ix_some e1
      refine br_nf (by simp) ?_
      have q1 : Q (nI (if v = 0 then bm_knd X n else if v = 1 then (bm_nam X n).length else bm_wc (bm_frm N) (8 * n) 8)) (sw_i w 50 0 0) := hq
      rw [nI_z (by omega), nl_1, nI_eq (by omega) (by decide), nI_clamp (by omega)]
      refine ⟨fun z => ⟨fun y => ?_, fun y => ⟨bm_in (by omega) (by decide), ?_⟩⟩, fun z => ⟨bm_in (by omega) (by decide), ?_⟩⟩
      · rw [if_neg z, if_neg y] at q1
        exact ⟨Q, ys_ft (hN.fr (hf 0) (by decide)) hW (by omega) q1, fun _ _ h => h⟩
      · rw [if_neg z, if_pos y] at q1
        rw [(hX.2.2.1 n g0).1]
        exact ⟨Q, by_lettersOf (d := d + 1) (hx.2.2.1 n g0).1 q1, fun _ _ h => h⟩
      · rw [if_pos z] at q1
        rw [(hX.2.2.1 n g0).2]; exact q1
end RULE
