/-! text, fault: what they tell, and the class -/
def st_lx (S : bm_S) : Nat ⊕ bd_D := bl_lex (st_t S) 481 (bm_sk (st_t S) 0) bd_0
def st_sc (S : bm_S) : Nat ⊕ List bm_P := bu_scr (st_t S) 12 (bm_sk (st_t S) 0) []
def st_lex (S : bm_S) (D : bd_D) : bm_S := ([], dd_X D, (dd_f D, fun _ => none, false), [], [], none, st_C S, st_R S)
def st_scr (S : bm_S) (L : List bm_P) : bm_S := ([], st_X S, st_N S, st_G S, st_U S, st_I S, st_C S ++ [L], st_R S)
def st_text (S : bm_S) (a : Int32) : bm_S := if a = 0 then (match st_lx S with | .inl _ => S | .inr D => st_lex S D) else if a = 1 then (if 4 ≤ (st_C S).length then S else match st_sc S with | .inl _ => S | .inr L => st_scr S L) else S
def br_text (S : bm_S) (a : Int32) : Int32 := if a = 0 then (match st_lx S with | .inl _ => -1 | .inr D => nI (bm_nn (dd_X D))) else if a = 1 then (if 4 ≤ (st_C S).length then -1 else match st_sc S with | .inl _ => -1 | .inr _ => nI (st_C S).length) else -1
def br_fault (S : bm_S) (a : Int32) : Int32 := if a = 0 then br_lex (st_lx S) else if a = 1 then br_scr (st_sc S) else -2
theorem bm_rf30 : ∀ n, n < 5 → bw_rf 30 n = 78 + n := by decide
theorem bm_s_app {C : List (List bm_P)} {L : List bm_P} {n : Nat} (h : n < C.length + 1) : bm_s (C ++ [L]) n = if n = C.length then L else bm_s C n := by
  unfold bm_s
  by_cases z : n = C.length
  · rw [if_pos z, z, List.getD_eq_getElem?_getD, List.getElem?_append_right (Nat.le_refl _)]
    simp
  · rw [if_neg z, List.getD_eq_getElem?_getD, List.getElem?_append_left (by omega), ← List.getD_eq_getElem?_getD]
section TEXT
variable {E : bw_E} {d : Nat} {w : bw_W} {S : bm_S} {K : Nat} {Q : Int32 → bw_W → Prop}
theorem st_lx_ok : match st_lx S with
    | .inl e => e ≤ (st_t S).length
    | .inr D' => bd_wf D' ∧ bm_nn (dd_X D') ≠ 0 := bl_lex_ok 481 (bm_sk (st_t S) 0) bd_0 (bm_pl_sk (Nat.zero_le _)) bd_wf_0
theorem st_sc_ok : match st_sc S with
    | .inl e => e ≤ (st_t S).length
    | .inr l => 0 + 1 ≤ l.length ∧ l.length ≤ 0 + 12 ∧ ∀ p ∈ l, bm_stok p := bu_scr_ok 12 (bm_sk (st_t S) 0) [] (bm_pl_sk (Nat.zero_le _)) (fun p h => by cases h)
theorem bm_wfS_lex {D : bd_D} (hw : bm_wfS K S) (hd : bd_wf D) (hn : bm_nn (dd_X D) ≠ 0) : bm_wfS K (st_lex S D) := by
  obtain ⟨a, b, c, e, f, g, i, j⟩ := hd
  refine ⟨bm_wfT_nil, ⟨a, b, c, e, f, fun z => absurd z hn⟩, ⟨⟨fun i hi => g i hi, fun h n c _ z => by cases z⟩, fun k hk _ => i k hk⟩, ⟨Nat.zero_le _, fun a h => by cases h⟩, ⟨Nat.zero_le _, Nat.zero_le _, fun N h => by cases h⟩, fun p h => (by cases h), hw.2.2.2.2.2.2⟩
theorem bm_wfS_scr {L : List bm_P} (hw : bm_wfS K S) (h4 : ¬ 4 ≤ (st_C S).length) (h1 : 1 ≤ L.length) (h12 : L.length ≤ 12) (hs : ∀ p ∈ L, bm_stok p) : bm_wfS K (st_scr S L) := by
  obtain ⟨_, h2, h3, h5, h6, h7, h8⟩ := hw
  refine ⟨bm_wfT_nil, h2, h3, h5, h6, h7, ?_, fun n hn => ?_⟩
  · show (st_C S ++ [L]).length ≤ 4
    rw [List.length_append]; show (st_C S).length + 1 ≤ 4; omega
  · have hn' : n < (st_C S ++ [L]).length := hn
    rw [List.length_append] at hn'
    have hn2 : n < (st_C S).length + 1 := hn'
    show 1 ≤ (bm_s (st_C S ++ [L]) n).length ∧ (bm_s (st_C S ++ [L]) n).length ≤ 12 ∧ ∀ i, i < (bm_s (st_C S ++ [L]) n).length → bm_stok (bm_p (bm_s (st_C S ++ [L]) n) i)
    rw [bm_s_app hn2]
    by_cases z : n = (st_C S).length
    · rw [if_pos z]
      refine ⟨h1, h12, fun i hi => ?_⟩
      unfold bm_p
      rw [List.getD_eq_getElem?_getD, List.getElem?_eq_getElem hi]
      exact hs _ (List.getElem_mem hi)
    · rw [if_neg z]; exact h8.2 n (by omega)
theorem bm_wfS_text {a : Int32} (hw : bm_wfS K S) : bm_wfS K (st_text S a) := by
  unfold st_text
  split
  · have o := st_lx_ok (S := S)
    cases e : st_lx S with
    | inl e0 => exact hw
    | inr D => rw [e] at o; exact bm_wfS_lex hw o.1 o.2
  split
  · split
    · exact hw
    rename_i h4
    have o := st_sc_ok (S := S)
    cases e : st_sc S with
    | inl e0 => exact hw
    | inr L => rw [e] at o; exact bm_wfS_scr hw h4 (by have := o.1; omega) (by have := o.2.1; omega) o.2.2
  · exact hw
/-! the class -/
abbrev bx_xl : List Nat := [0, 1, 18, 19, 20, 21, 22, 23, 24, 25, 26, 27, 28, 29, 32, 37]
theorem bx_Z.fr' {w' : bw_W} {L : List Nat} (h : bx_Z w) (hf : bw_fr L w w') (h13 : 13 ∉ L) : bx_Z w' := fun i hi => by rw [hf.i h13]; exact h i hi
theorem xs_adopt {D : bd_D} (hw : bm_wfS K S) (hd : bd_wf D) (hn : bm_nn (dd_X D) ≠ 0) (h : bx_S S w) (hZ : bx_Z w) (hD : bx_D D w) (hq : ∀ w', bw_fr bx_xl w w' → bx_S (st_lex S D) w' → Q (nI (bm_nn (dd_X D))) w') : bw_ri E (d + 2) mX11_adoptLexicon [.ref 0] w Q := by
  obtain ⟨h1, h2, h3, h4, h5, h6, h7, h8, h9⟩ := h
  have hxx := hd.2.2.2.2.1
  refine wfX11_adoptLexicon ⟨fun w3 => bw_fr [18, 19, 20, 21, 22, 23, 24, 25, 26, 27, 28, 29] w w3 ∧ bx_X (dd_X D) w3 ∧ ∀ j, j < 48 → gw_l w3 21 j = bx_w (dd_f D j), wfX3_copyFrom ⟨fun i hi => ?_, ?_⟩, ?_⟩
  · simp only [gc_ii, gc_il, gs_ii]
    simpa using hZ i hi
  · refine ⟨?_, ?_, ?_⟩
    · refine bw_fr.cl (bw_fr.ci (bw_fr.ci (bw_fr.ci (bw_fr.ci (bw_fr.cl (bw_fr.cl (bw_fr.cl (bw_fr.cl (bw_fr.ci (bw_fr.cl (bw_fr.si (bw_fr.si (bw_fr.rf _ _) ?_) ?_) ?_) ?_) ?_) ?_) ?_) ?_) ?_) ?_) ?_) ?_) ?_ <;> decide
    · refine ⟨?_, ?_, fun i hi => ⟨?_, ?_⟩, fun j hj => ⟨?_, ?_⟩, fun m hm => ⟨?_, fun i hi => ?_⟩⟩
      · simp only [gc_ii, gc_il, gs_ii]; simpa using hD.1
      · simp only [gc_ii, gc_il, gs_ii]; simpa using hD.2.1
      · have := hd.1
        simp only [gc_ll, gc_li]; simpa [show i < 6 by omega] using (hD.2.2.1 i hi).1
      · have := hd.1
        simp only [gc_ii, gc_il]; simpa [show i < 6 by omega] using (hD.2.2.1 i hi).2
      · simp only [gc_ll, gc_li]; simpa [hj] using (hD.2.2.2.2.1 j hj).1
      · simp only [gc_ll, gc_li]; simpa [hj] using (hD.2.2.2.2.1 j hj).2
      · have := hd.2.1
        simp only [gc_ii, gc_il]; simpa [show m < 4 by omega] using (hD.2.2.2.2.2 m hm).2.1
      · have := hd.2.1
        have := (hxx m hm).2.1
        have o := (hD.2.2.2.2.2 m hm).2.2 i hi
        unfold bx_it
        unfold bx_itd at o
        simp only [gc_ii, gc_ll, gc_il, gc_li]
        simpa [show 8 * m + i < 32 by omega] using o
    · intro j hj
      simp only [gc_ll, gc_li]; simpa [hj] using hD.2.2.2.1 j hj
  rintro w3 ⟨f3, x3, n3⟩
  have f4 : bw_fr [0] w3 (sw_i w3 0 5 1) := (bw_fr.rf _ _).si (by decide)
  generalize hw4 : sw_i w3 0 5 1 = w4 at f4
  refine ⟨fun w6 => bw_fr [32] w4 w6 ∧ bx_N (dd_f D, fun _ => none, false) w6, wfX7_beginWith ?_, ?_⟩
  · have key : ∀ n i (w' : bw_W), i + n = 52 → 48 ≤ i → bw_fr [32] w4 w' → (∀ j, j < 48 → gw_l w' 32 j = bx_w (dd_f D j)) → (∀ j, 48 ≤ j → j < i → gw_l w' 32 j = 0) → bw_G E (d + 1) mX7_beginWith 18 [some (.ref 31), some (.ref 18), some (.int (nI i))] [] w' (bw_qv (fun w6 => bw_fr [32] w4 w6 ∧ bx_N (dd_f D, fun _ => none, false) w6)) := by
      intro n
      induction n with
      | zero =>
        intro i w' hi h48 f' a b
        refine wfX7_beginWith_18 (br_t (nI_le (a := 52) (by omega) (by omega)) ⟨f', a, fun h hh => ?_, ?_⟩)
        · rw [b (48 + h) (by omega) (by omega)]; rfl
        · rw [b 51 (by omega) (by omega)]; rfl
      | succ n ih =>
        intro i w' hi h48 f' a b
        refine wfX7_beginWith_18 (br_f (nI_ge (a := i) (b := 52) (by omega) (by decide)) ⟨bm_in (by omega) (by decide), ?_⟩)
        rw [nI_clamp (by omega), nI_1]
        refine ih (i + 1) _ (by omega) (by omega) (f'.sl (by decide)) (fun j hj => ?_) (fun j h1 h2 => ?_)
        · rw [gs_ll, if_neg (by omega)]; exact a j hj
        · rw [gs_ll]
          by_cases x : j = i
          · rw [if_pos ⟨rfl, x⟩]
          · rw [if_neg (fun y => x y.2)]; exact b j h1 (by omega)
    refine key 4 48 _ rfl (by decide) ((bw_fr.rf _ _).cl (by decide)) (fun j hj => ?_) (fun j h1 h2 => absurd h1 (by omega))
    rw [gc_ll, if_pos rfl, if_pos hj, f4.l (by decide)]; exact n3 j hj
  rintro w6 ⟨f6, n6⟩
  have x6 : bx_X (dd_X D) w6 := (x3.fr f4 (by decide)).fr f6 (by decide)
  have e18 := x6.1
  rw [e18]
  generalize hw7 : sw_i (sw_i (sw_i (sw_i w6 37 1 0) 37 4 0) 0 14 0) 1 1 0 = w7
  have f7 : bw_fr [0, 1, 37] w6 w7 := by rw [← hw7]; exact ((((bw_fr.rf _ _).si (by decide)).si (by decide)).si (by decide)).si (by decide)
  have fA : bw_fr bx_xl w w7 := (((f3.up (by decide)).tr (f4.up (by decide))).tr (f6.up (by decide))).tr (f7.up (by decide))
  have e0 : ∀ k, k ≠ 5 → k ≠ 14 → gw_i w7 0 k = gw_i w 0 k := fun k h5 h14 => by
    rw [← hw7, gs_ii, if_neg (by omega), gs_ii, if_neg (by omega), gs_ii, if_neg (by omega), gs_ii, if_neg (by omega), f6.i (by decide), ← hw4, gs_ii, if_neg (by omega), f3.i (by decide)]
  refine hq w7 fA ⟨⟨?_, fun i hi => absurd hi (Nat.not_lt_zero i)⟩, x6.fr f7 (by decide), ?_, n6.fr f7 (by decide), ⟨?_, fun i _ hi => absurd hi (Nat.not_lt_zero i)⟩, ⟨?_, fun j hj => absurd hj (Nat.not_lt_zero j)⟩, ⟨?_, fun p z => by cases z⟩, ⟨?_, fun n hn => ⟨?_, fun i hi => ?_⟩⟩, h9.fr fA (by decide)⟩
  · rw [← hw7, gs_ii, if_pos ⟨rfl, rfl⟩]; rfl
  · show gw_i w7 0 5 = nI (if bm_nn (dd_X D) = 0 then 0 else 1)
    rw [if_neg hn, ← hw7, gs_ii, if_neg (by omega), gs_ii, if_neg (by omega), gs_ii, if_neg (by omega), gs_ii, if_neg (by omega), f6.i (by decide), ← hw4, gs_ii, if_pos ⟨rfl, rfl⟩]; rfl
  · rw [← hw7, gs_ii, if_neg (by omega), gs_ii, if_neg (by omega), gs_ii, if_neg (by omega), gs_ii, if_pos ⟨rfl, rfl⟩]; rfl
  · rw [← hw7, gs_ii, if_neg (by omega), gs_ii, if_neg (by omega), gs_ii, if_pos ⟨rfl, rfl⟩]; rfl
  · rw [← hw7, gs_ii, if_neg (by omega), gs_ii, if_pos ⟨rfl, rfl⟩]; rfl
  · rw [e0 7 (by decide) (by decide)]; exact h8.1
  · have hn' : n < (st_C S).length := hn
    have nm : ∀ c, 78 ≤ c → c ∉ bx_xl := fun c hc q => by
      have : ∀ c ∈ bx_xl, c < 78 := by decide
      have := this c q; omega
    rw [fA.i (nm _ (by omega))]; exact (h8.2 n hn').1
  · have hn' : n < (st_C S).length := hn
    have nm : ∀ c, 78 ≤ c → c ∉ bx_xl := fun c hc q => by
      have : ∀ c ∈ bx_xl, c < 78 := by decide
      have := this c q; omega
    have o := (h8.2 n hn').2 i hi
    unfold bx_st at o ⊢
    show gw_i w7 (88 + 12 * n + i) 0 = _ ∧ _
    rw [fA.i (nm _ (by omega)), fA.i (nm _ (by omega)), fA.i (nm _ (by omega)), fA.i (nm _ (by omega)), fA.l (nm _ (by omega))]; exact o
/-- a script that was only read -/
theorem bx_S.sl {w' : bw_W} (hw : bm_wfS K S) (h : bx_S S w) (hf : bw_fr (bx_sl (st_C S).length) w w') : bx_S S w' := by
  obtain ⟨h1, h2, h3, h4, h5, h6, h7, h8, h9⟩ := h
  have hm : ∀ c, c ∈ bx_sl (st_C S).length → c = 3 ∨ 78 ≤ c := fun c q => by have := bx_sl_mem.mp q; omega
  have nn : ∀ c, c ≠ 3 → c < 78 → c ∉ bx_sl (st_C S).length := fun c a b q => by have := hm c q; omega
  have h4' := hw.2.2.2.2.2.2.1
  exact ⟨h1.fr hf (nn _ (by decide) (by decide)) (nn _ (by decide) (by decide)), h2.fr hf (fun c q => by have := hm c q; omega), h3.fr hf (nn _ (by decide) (by decide)), h4.fr hf (nn _ (by decide) (by decide)), h5.fr hf (nn _ (by decide) (by decide)) (nn _ (by decide) (by decide)), h6.fr hf (nn _ (by decide) (by decide)) (nn _ (by decide) (by decide)) (nn _ (by decide) (by decide)), h7.fr hf (nn _ (by decide) (by decide)) (nn _ (by decide) (by decide)) (nn _ (by decide) (by decide)) (nn _ (by decide) (by decide)), h8.fr hw.2.2.2.2.2.2 hf (nn _ (by decide) (by decide)) (fun c q => by have := bx_sl_mem.mp q; omega), h9.fr hf (nn _ (by decide) (by decide))⟩
theorem bx_Z.sl {w' : bw_W} {n : Nat} (h : bx_Z w) (hf : bw_fr (bx_sl n) w w') : bx_Z w' := h.fr' hf (fun q => by have := bx_sl_mem.mp q; omega)
/-- what text and fault of the class may change -/
def bx_tx (c : Nat) : Prop := c < 50 ∨ 76 < c
theorem qx_fault {a : Int32} (hw : bm_wfS K S) (h : bx_S S w) (hZ : bx_Z w) (hq : ∀ w' L, bw_fr L w w' → (∀ c, c ∈ L → c < 50 ∨ 76 < c) → bx_Z w' → bx_S S w' → Q (br_fault S a) w') : bw_ri E (d + 9) mX11_fault [.ref 0, .int a] w Q := by
  have h4 := hw.2.2.2.2.2.2.1
  unfold br_fault at hq
  refine wfX11_fault ⟨fun z => ?_, fun z => ?_, fun z1 z2 => ?_⟩
  · refine ⟨Q, xs_ffL (d := d) hw.1 h.1 hZ (fun w' f z' _ => ?_), fun _ _ h => h⟩
    have q := hq w' bx_dl f (by decide) z' (h.fr hw f (by unfold bx_sc; decide))
    rw [if_pos z] at q; exact q
  · have e7 : gw_i w 0 7 = nI (st_C S).length := h.2.2.2.2.2.2.2.1.1
    rw [e7, nI_clamp (by omega), bm_rf30 _ (by omega)]
    refine ⟨bm_in (by omega) (by decide), Q, xs_ffS (d := d) (n := (st_C S).length) (by omega) hw.1 h.1 (fun w' f _ => ?_), fun _ _ h => h⟩
    have q := hq w' _ f (fun c q => by have := bx_sl_mem.mp q; omega) (hZ.sl f) (h.sl hw f)
    rw [if_neg (by rw [z]; decide), if_pos z] at q; exact q
  · have q := hq w [] (bw_fr.rf _ _) (fun c q => by cases q) hZ h
    rw [if_neg z1, if_neg z2] at q; exact q
theorem qx_text {a : Int32} (hw : bm_wfS K S) (h : bx_S S w) (hZ : bx_Z w) (hq : ∀ w' L, bw_fr L w w' → (∀ c, c ∈ L → c < 50 ∨ 76 < c) → bx_Z w' → bx_S (st_text S a) w' → Q (br_text S a) w') : bw_ri E (d + 9) mX11_text [.ref 0, .int a] w Q := by
  have h4 := hw.2.2.2.2.2.2.1
  unfold br_text st_text at hq
  refine wfX11_text ⟨fun z => ?_, fun z => ?_, fun z1 z2 => ?_⟩
  · rw [if_pos z, if_pos z] at hq
    have o := st_lx_ok (S := S)
    have hr : st_lx S = bl_lex (st_t S) 481 (bm_sk (st_t S) 0) bd_0 := rfl
    refine ⟨fun v w3 => v = br_lex (st_lx S) ∧ bw_fr bx_dl w w3 ∧ bx_Z w3 ∧ bx_gotL w3 (st_lx S), xs_ffL (d := d) hw.1 h.1 hZ (fun w' f z' g => ⟨rfl, f, z', g⟩), ?_⟩
    rintro _ w3 ⟨rfl, f3, z3, g3⟩
    have h3 : bx_S S w3 := h.fr hw f3 (by unfold bx_sc; decide)
    cases e : st_lx S with
    | inl e0 =>
      rw [e] at hq o
      have he : e0 ≤ (st_t S).length := o
      have ht := hw.1.1
      exact br_nt (nI_ne_m1 (by omega)) (hq w3 bx_dl f3 (by decide) z3 h3)
    | inr D =>
      rw [e] at hq o g3
      dsimp only at hq
      refine br_nf rfl ⟨Q, xs_adopt (d := d + 6) hw o.1 o.2 h3 z3 g3 (fun w' f h' => ?_), fun _ _ h => h⟩
      exact hq w' (bx_dl ++ bx_xl) ((f3.up (fun c q => List.mem_append_left _ q)).tr (f.up (fun c q => List.mem_append_right _ q))) (by decide) (z3.fr' f (by decide)) h'
  · have e7 : gw_i w 0 7 = nI (st_C S).length := h.2.2.2.2.2.2.2.1.1
    have n0 : ¬ a = 0 := by rw [z]; decide
    rw [if_neg n0, if_neg n0, if_pos z, if_pos z] at hq
    rw [e7, show (4 : Int32) = nI 4 from rfl, nI_leI (a := 4) (b := (st_C S).length) (by decide) (by omega)]
    refine ⟨fun y => ?_, fun y => ?_⟩
    · rw [if_pos y, if_pos y] at hq
      exact hq w [] (bw_fr.rf _ _) (fun c q => by cases q) hZ h
    rw [if_neg y, if_neg y] at hq
    rw [nI_clamp (by omega), bm_rf30 _ (by omega)]
    refine ⟨bm_in (by omega) (by decide), fun v w3 => v = br_scr (st_sc S) ∧ bw_fr (bx_sl (st_C S).length) w w3 ∧ bx_got (st_C S).length w3 (st_sc S), xs_ffS (d := d) (n := (st_C S).length) (by omega) hw.1 h.1 (fun w' f g => ⟨rfl, f, g⟩), ?_⟩
    rintro _ w3 ⟨rfl, f3, g3⟩
    have h3 : bx_S S w3 := h.sl hw f3
    have z3 := hZ.sl f3
    have m3 : ∀ c, c ∈ bx_sl (st_C S).length → c < 50 ∨ 76 < c := fun c q => by have := bx_sl_mem.mp q; omega
    have o := st_sc_ok (S := S)
    cases e : st_sc S with
    | inl e0 =>
      rw [e] at hq o
      have he : e0 ≤ (st_t S).length := o
      have ht := hw.1.1
      exact br_nt (nI_ne_m1 (by omega)) (hq w3 _ f3 m3 z3 h3)
    | inr L =>
      rw [e] at hq o g3
      dsimp only at hq
      refine br_nf rfl ?_
      obtain ⟨k1, k2, k3, k4, k5, k6, k7, k8, k9⟩ := h3
      rw [k8.1, Int32.add_sub_cancel, nI_1]
      have f4 : bw_fr [0, 1] w3 (sw_i (sw_i w3 1 1 0) 0 7 (nI ((st_C S).length + 1))) := ((bw_fr.rf _ _).si (by decide)).si (by decide)
      have e0 : ∀ k, k ≠ 7 → gw_i (sw_i (sw_i w3 1 1 0) 0 7 (nI ((st_C S).length + 1))) 0 k = gw_i w3 0 k := fun k hk => by rw [gs_ii, if_neg (by omega), gs_ii, if_neg (by omega)]
      refine hq _ ([0, 1] ++ bx_sl (st_C S).length) ((f3.up (fun c q => List.mem_append_right _ q)).tr (f4.up (fun c q => List.mem_append_left _ q))) (fun c q => ?_) (z3.fr' f4 (by decide)) ?_
      · rcases List.mem_append.mp q with q | q
        · have : ∀ c ∈ [0, 1], c < 50 := by decide
          exact Or.inl (this c q)
        · exact m3 c q
      generalize hw4 : sw_i (sw_i w3 1 1 0) 0 7 (nI ((st_C S).length + 1)) = w4 at f4 e0
      refine ⟨⟨?_, fun i hi => absurd hi (Nat.not_lt_zero i)⟩, k2.fr f4 (by decide), ?_, k4.fr f4 (by decide), k5.fr f4 (by decide) (by decide), k6.fr f4 (by decide) (by decide) (by decide), ⟨?_, fun p hp => ?_⟩, ⟨?_, fun n hn => ?_⟩, k9.fr f4 (by decide)⟩
      · rw [← hw4, gs_ii, if_neg (by omega), gs_ii, if_pos ⟨rfl, rfl⟩]; rfl
      · show gw_i w4 0 5 = _
        rw [e0 5 (by decide)]; exact k3
      · rw [e0 14 (by decide)]; exact k7.1
      · have := k7.2 p hp
        exact ⟨by rw [f4.fl (by decide)]; exact this.1, this.2.fr f4 (by decide) (by decide)⟩
      · show gw_i w4 0 7 = nI (st_C S ++ [L]).length
        rw [List.length_append, ← hw4, gs_ii, if_pos ⟨rfl, rfl⟩]; rfl
      · have hn' : n < (st_C S ++ [L]).length := hn
        rw [List.length_append] at hn'
        have hn2 : n < (st_C S).length + 1 := hn'
        have n4 : ∀ c, 78 ≤ c → c ∉ [0, 1] := fun c hc q => by
          have : ∀ c ∈ [0, 1], c < 50 := by decide
          have := this c q; omega
        have st : ∀ {p : bm_P} {c : Nat}, 78 ≤ c → bx_st p c w3 → bx_st p c w4 := fun {p c} hc o => by
          unfold bx_st at o ⊢
          rw [f4.i (n4 _ hc), f4.i (n4 _ hc), f4.i (n4 _ hc), f4.i (n4 _ hc), f4.l (n4 _ hc)]; exact o
        show gw_i w4 (78 + n) 0 = nI (bm_s (st_C S ++ [L]) n).length ∧ ∀ i, i < (bm_s (st_C S ++ [L]) n).length → bx_st (bm_p (bm_s (st_C S ++ [L]) n) i) (88 + 12 * n + i) w4
        rw [bm_s_app hn2, f4.i (n4 _ (by omega))]
        by_cases x : n = (st_C S).length
        · rw [if_pos x, x]
          exact ⟨g3.1, fun i hi => st (by omega) (g3.2 i hi)⟩
        · rw [if_neg x]
          exact ⟨(k8.2 n (by omega)).1, fun i hi => st (by omega) ((k8.2 n (by omega)).2 i hi)⟩
  · have q := hq w [] (bw_fr.rf _ _) (fun c q => by cases q) hZ
    rw [if_neg z1, if_neg z1, if_neg z2, if_neg z2] at q; exact q h
end TEXT
