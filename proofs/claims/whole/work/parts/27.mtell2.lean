section MTELL2
variable {E : bw_E} {d : Nat} {w : bw_W} {X : bm_X} {N : bm_N}
def by_L (l : List Nat) (w : bw_W) : Prop := gw_i w 50 37 = nI l.length ∧ ∀ i, i < l.length → gw_i w 71 i = nI (l.getD i 0)
theorem by_L_add {l : List Nat} {b : Nat} (hl : by_L l w) : by_L (l ++ [b]) (sw_i (sw_i w 71 l.length (nI b)) 50 37 (nI (l.length + 1))) := by
  refine ⟨by rw [gs_ii, if_pos ⟨rfl, rfl⟩, List.length_append]; rfl, fun i hi => ?_⟩
  rw [gs_ii, if_neg (by intro q; exact absurd q.1 (by decide)), gs_ii]
  rw [List.length_append, List.length_singleton] at hi
  by_cases e : i = l.length
  · subst e
    rw [if_pos ⟨rfl, rfl⟩, List.getD_eq_getElem?_getD, List.getElem?_append_right (Nat.le_refl _)]
    simp
  · rw [if_neg (fun q => e q.2), hl.2 i (by omega), List.getD_eq_getElem?_getD, List.getD_eq_getElem?_getD, List.getElem?_append_left (by omega)]
theorem by_add_fr (w : bw_W) (l b : Nat) : by_fr [71] [37] w (sw_i (sw_i w 71 l (nI b)) 50 37 (nI (l + 1))) := ((by_fr.rf _ _ w).si (by decide) (by decide)).s5 (by decide)
theorem ys_gap {Q : bw_W → Prop} {l : List Nat} (hl : by_L l w) (h1 : l.length < 200) (hq : ∀ w', by_fr [71] [37] w w' → by_L (if l = [] then l else l ++ [32]) w' → Q w') : bw_rv E (d + 1) mX12_gap [.ref 50] w Q := by
  refine wfX12_gap ?_
  rw [hl.1, nI_clamp (by omega), nI_1]
  cases l with
  | nil => exact br_t (by decide) (hq w (by_fr.rf _ _ _) hl)
  | cons x l =>
    exact br_f (nI_ge (a := 0) (b := (x :: l).length) (by simp) (by omega)) ⟨bm_in h1 (by decide), hq _ (by_add_fr w _ 32) (by rw [if_neg (by simp)]; exact by_L_add (b := 32) hl)⟩
theorem ys_letters {Q : bw_W → Prop} {u : List Nat} (hu : bm_ok u) : ∀ (n i : Nat) (w : bw_W) (l : List Nat), i + n = u.length → by_L l w → l.length + n ≤ 200 → (∀ w', by_fr [71] [37] w w' → by_L (l ++ (bm_by u).drop i) w' → Q w') → bw_G E (d + 2) mX12_saysWord 19 [some (.ref 50), some (.long (by_w u)), none, some (.int (nI u.length)), some (.int (nI i))] [] w (bw_qv Q) := by
  have h8 := hu.1
  intro n
  induction n with
  | zero =>
    intro i w l h1 hl h2 hq
    refine wfX12_saysWord_19 (br_t (nI_le (by omega) (by omega)) (hq w (by_fr.rf _ _ _) ?_))
    rw [List.drop_eq_nil_of_le (by unfold bm_by; rw [List.length_map]; omega), List.append_nil]
    exact hl
  | succ n ih =>
    intro i w l h1 hl h2 hq
    have hlt : i < u.length := by omega
    refine wfX12_saysWord_19 (br_f (nI_ge hlt (by omega)) ⟨fun v w3 => nI (96 + u.getD i 0) = v ∧ w = w3, by_letterOf (d := d) hu hlt ⟨rfl, rfl⟩, ?_⟩)
    rintro _ _ ⟨rfl, rfl⟩
    rw [hl.1, nI_clamp (by omega), nI_1, nI_1]
    refine ⟨bm_in (by omega) (by decide), ih (i + 1) _ _ (by omega) (by_L_add hl) (by rw [List.length_append, List.length_singleton]; omega) (fun w2 hf2 hl2 => hq w2 ((by_add_fr w _ _).tr hf2) ?_)⟩
    have e : (bm_by u).drop i = (96 + u.getD i 0) :: (bm_by u).drop (i + 1) := by
      have e0 : u.drop i = u.getD i 0 :: u.drop (i + 1) := by
        rw [List.drop_eq_getElem_cons hlt, List.getD_eq_getElem?_getD, List.getElem?_eq_getElem hlt]; rfl
      unfold bm_by
      rw [← List.map_drop, e0, List.map_cons, List.map_drop]
    rw [e]
    rw [List.append_assoc] at hl2
    exact hl2
theorem ys_word {Q : bw_W → Prop} {l u : List Nat} (hu : bm_ok u) (hl : by_L l w) (h1 : l.length + 9 ≤ 200) (hq : ∀ w', by_fr [71] [37] w w' → by_L (bm_app l (bm_by u)) w' → Q w') : bw_rv E (d + 2) mX12_saysWord [.ref 50, .long (by_w u)] w Q := by
  have h8 := hu.1
  refine wfX12_saysWord ?_
  by_cases he : u = []
  · subst he
    exact br_nf rfl (hq w (by_fr.rf _ _ _) hl)
  · have hby : bm_by u ≠ [] := by unfold bm_by; intro q; exact he (List.map_eq_nil_iff.mp q)
    refine br_nt (fun q => he ((by_w0 hu).mp q)) ⟨_, ys_gap (d := d) hl (by omega) (fun w' hf hl' => ?_), fun w3 h => h⟩
    refine ⟨_, by_lettersOf (d := d + 1) (Q := fun v w6 => bw_G E (d + 2) mX12_saysWord 19 [some (.ref 50), some (.long (by_w u)), none, some (.int v), some (.int 0)] [] w6 (bw_qv Q)) hu ?_, fun v w6 h => h⟩
    refine ys_letters hu u.length 0 w' _ (by omega) hl' ?_ (fun w2 hf2 hl2 => hq w2 (hf.tr hf2) ?_)
    · split
      · omega
      · rw [List.length_append, List.length_singleton]; omega
    · rw [List.drop_zero] at hl2
      unfold bm_app
      rw [if_neg hby]
      by_cases e2 : l = []
      · rw [if_pos e2]; rw [if_pos e2, e2, List.nil_append] at hl2; exact hl2
      · rw [if_neg e2]; rw [if_neg e2, List.append_assoc] at hl2; exact hl2
theorem ys_count {Q : bw_W → Prop} {l : List Nat} {c : Nat} (hc : c ≤ 99) (hl : by_L l w) (h1 : l.length + 9 ≤ 200) (hq : ∀ w', by_fr [71] [37] w w' → by_L (bm_app l (bm_dig c)) w' → Q w') : bw_rv E (d + 2) mX12_saysCount [.ref 50, .int (nI c)] w Q := by
  have happ : bm_app l (bm_dig c) = (if l = [] then l else l ++ [32]) ++ bm_dig c := by
    unfold bm_app
    have : bm_dig c ≠ [] := by unfold bm_dig; split <;> simp
    rw [if_neg this]
    by_cases e : l = []
    · rw [if_pos e, if_pos e, e]; rfl
    · rw [if_neg e, if_neg e, List.append_assoc]; rfl
  have hlen : (if l = [] then l else l ++ [32]).length ≤ l.length + 1 := by
    split
    · omega
    · rw [List.length_append]; exact Nat.le_refl _
  refine wfX12_saysCount ⟨_, ys_gap (d := d) hl (by omega) (fun w' hf hl' => ?_), fun w3 h => h⟩
  rw [show (10 : Int32) = nI 10 from rfl, pk_rem (by omega) (by decide) (by decide), pk_div (by omega) (by decide) (by decide), nl_48, nI_add, nI_add, hl'.1, nI_clamp (by omega), nI_1]
  have ha := by_L_add (b := 48 + c / 10) hl'
  rw [ha.1, nI_clamp (by rw [List.length_append, List.length_singleton]; omega), nI_1]
  have hb := by_L_add (b := 48 + c % 10) ha
  refine ⟨fun q => ⟨bm_in (by omega) (by decide), ?_⟩, fun q => ⟨bm_in (by omega) (by decide), bm_in (by rw [List.length_append, List.length_singleton]; omega) (by decide), ?_⟩⟩
  · have q2 := (nI_leI (b := 9) (by omega) (by decide)).mp q
    refine hq _ (hf.tr (by_add_fr w' _ _)) ?_
    have hdg : bm_dig c = [48 + c % 10] := by unfold bm_dig; rw [if_neg (by omega)]
    rw [happ, hdg]
    exact by_L_add hl'
  · have q2 : ¬ c ≤ 9 := fun z => q ((nI_leI (b := 9) (by omega) (by decide)).mpr z)
    refine hq _ ((hf.tr (by_add_fr w' _ _)).tr (by_add_fr _ _ _)) ?_
    have hdg : bm_dig c = [48 + c / 10, 48 + c % 10] := by unfold bm_dig; rw [if_pos (by omega)]
    rw [happ, hdg]
    rw [List.append_assoc] at hb
    exact hb
theorem ys_item {Q : bw_W → Prop} (hX : by_X X w) (hN : by_N N w) (hW : bm_wfN X N) (hx : bm_wfX X) {k : Nat} {q : Nat × Nat × Nat × List Nat} {l : List Nat} (hk : k < 32) (hi : by_it q k w) (ho : bm_itok q) (hb : bm_bad X N q = none) (hl : by_L l w) (h1 : l.length + 18 ≤ 200) (hq : ∀ w', by_fr [71] [37] w w' → by_L (bm_say X N q l) w' → Q w') : bw_rv E (d + 4) mX12_saysItem [.ref 50, .int (nI k)] w Q := by
  obtain ⟨s, h, b, u⟩ := q
  obtain ⟨o1, o2, o3, o4, o5⟩ := ho
  obtain ⟨i1, i2, i3, i4⟩ := hi
  dsimp only at *
  have fX : ∀ {w'}, by_fr [71] [37] w w' → by_X X w' := fun hf => hX.fr hf (by decide) (by decide) (by decide)
  have fN : ∀ {w'}, by_fr [71] [37] w w' → by_N N w' := fun hf => hN.fr hf (by decide)
  refine wfX12_saysItem ?_
  rw [nl_3, nl_1, nl_2, pk_mul, nI_add, nI_add, nI_clamp (n := 3 * k) (by omega), nI_clamp (n := 3 * k + 1) (by omega), nI_clamp (n := 3 * k + 2) (by omega), nI_clamp (n := k) (by omega), i1]
  refine ⟨bm_in (by omega) (by decide), bm_in (by omega) (by decide), bm_in (by omega) (by decide), ?_⟩
  unfold bm_say at hq
  unfold bm_bad at hb
  dsimp only at hq hb
  by_cases hs0 : s = 0
  · subst hs0
    rw [i2 rfl]
    rw [if_pos rfl] at hq
    exact br_nf rfl ⟨bm_in hk (by decide), Q, ys_word (d := d + 1) (o2 rfl).1 hl (by omega) hq, fun w' h => h⟩
  · rw [if_neg hs0] at hq hb
    have hh := o3 hs0
    cases e : bm_hol N h with
    | none => rw [e] at hb; cases hb
    | some p =>
      obtain ⟨n, c⟩ := p
      have g1 := hW.2 h n c hh e
      have g2 := hx.1
      have g3 := (hx.2.2.1 n g1.1).2.2
      have g4 := bm_num_lt c
      rw [e] at hq
      dsimp only at hq
      rw [i3 hs0, yv_noun hN hh e, yv_num hN hW hh e, nI_clamp (n := n) (by omega), (hX.2.2.1 n g1.1).2]
      have i6 : vp_in (nI n) 6 := bm_in (by omega) (by decide)
      have hs : s = 1 ∨ s = 2 ∨ s = 3 ∨ s = 4 ∨ s = 5 ∨ s = 6 := by omega
      rcases hs with rfl | rfl | rfl | rfl | rfl | rfl
      · have hb4 := o4 (by omega)
        rw [i4 (by decide) (by decide)]
        rw [if_pos rfl] at hq
        refine br_nt (by decide) (br_nt (by decide) (br_f (by decide) (br_t rfl (br_f (by decide) ⟨yv_in hh, yv_in2 hh, fun v w4 => by_w (bm_form X N n b (bm_num c)) = v ∧ w = w4, ys_form (d := d) hX hN hW hx g1.1 hb4 g4 ⟨rfl, rfl⟩, ?_⟩))))
        rintro _ _ ⟨rfl, rfl⟩
        exact ⟨Q, ys_word (d := d + 1) (bm_form_ok hW hx g1.1 hb4 g4) hl (by omega) hq, fun w' h => h⟩
      · have hb4 := o4 (by omega)
        have ok1 := bm_wd_ok hx (p := 0) (by omega) hb4 g4 g3
        rw [i4 (by decide) (by decide), yv_wordOf (p := false) hX hx hb4 g4 g3]
        rw [if_neg (by decide), if_pos rfl] at hq
        refine br_nt (by decide) (br_nt (by decide) (br_f (by decide) (br_f (by decide) (br_nt (by decide) ⟨yv_in2 hh, yv_in hh, i6, yv_atin hx hb4 g4 g3, fun _ => yv_atin (kd := 0) hx hb4 g4 (by omega), _, ys_word (d := d + 1) ok1 hl (by omega) (fun w' hf hl' => ?_), fun w' h => h⟩))))
        replace hl' : by_L (bm_app l (bm_by (bm_wd X 0 b (bm_num c) (bm_knd X n)))) w' := hl'
        have hlen := bm_app_len l (bm_by (bm_wd X 0 b (bm_num c) (bm_knd X n)))
        rw [bm_by_len] at hlen
        have hl8 := ok1.1
        refine br_f (by decide) ⟨yv_in hh, yv_in2 hh, ?_⟩
        rw [yv_noun (fN hf) hh e, yv_num (fN hf) hW hh e]
        refine ⟨fun v w4 => by_w (bm_form X N n b (bm_num c)) = v ∧ w' = w4, ys_form (d := d) (fX hf) (fN hf) hW hx g1.1 hb4 g4 ⟨rfl, rfl⟩, ?_⟩
        rintro _ _ ⟨rfl, rfl⟩
        exact ⟨Q, ys_word (d := d + 1) (bm_form_ok hW hx g1.1 hb4 g4) hl' (by omega) (fun w2 hf2 hl2 => hq w2 (hf.tr hf2) hl2), fun w' h => h⟩
      · have hb4 := o4 (by omega)
        have ok1 := bm_wd_ok hx (p := 1) (by omega) hb4 g4 g3
        rw [i4 (by decide) (by decide), yv_wordOf (p := true) hX hx hb4 g4 g3]
        rw [if_neg (by decide), if_neg (by decide), if_pos rfl] at hq
        refine br_nt (by decide) (br_nt (by decide) (br_f (by decide) (br_f (by decide) (br_nf rfl ⟨yv_in2 hh, yv_in hh, i6, yv_atin hx hb4 g4 g3, fun _ => yv_atin (kd := 0) hx hb4 g4 (by omega), _, ys_word (d := d + 1) ok1 hl (by omega) (fun w' hf hl' => ?_), fun w' h => h⟩))))
        exact br_t rfl (hq w' hf hl')
      · rw [if_neg (by decide), if_neg (by decide), if_neg (by decide), if_pos rfl] at hq
        rw [yv_count hN hh e]
        exact br_nt (by decide) (br_nf rfl ⟨yv_in2 hh, Q, ys_count (d := d + 1) g1.2 hl (by omega) hq, fun w' h => h⟩)
      · exact br_nt (by decide) (br_nt (by decide) (br_t (by decide) (hq w (by_fr.rf _ _ _) hl)))
      · exact br_nt (by decide) (br_nt (by decide) (br_t (by decide) (hq w (by_fr.rf _ _ _) hl)))
theorem bm_bad_some {q : Nat × Nat × Nat × List Nat} {hh y : Nat} (e : bm_bad X N q = some (hh, y)) : q.1 ≠ 0 ∧ (((y = 2 ∨ y = 3) ∧ hh = q.2.2.1 ∧ (q.1 = 5 ∨ q.1 = 6)) ∨ (y = 0 ∧ hh = q.2.1 ∧ bm_hol N q.2.1 = none) ∨ (y = 0 ∧ hh = q.2.2.1 ∧ bm_hol N q.2.1 ≠ none ∧ (q.1 = 5 ∨ q.1 = 6)) ∨ ((y = 1 ∨ y = 4) ∧ hh = q.2.1)) := by
  obtain ⟨s, h, b, u⟩ := q
  unfold bm_bad at e
  dsimp only at *
  split at e
  · cases e
  · rename_i hs0
    refine ⟨hs0, ?_⟩
    cases e1 : bm_hol N h with
    | none =>
      rw [e1] at e
      cases e
      exact Or.inr (Or.inl ⟨rfl, rfl, rfl⟩)
    | some p =>
      obtain ⟨n, c⟩ := p
      rw [e1] at e
      dsimp only at e
      split at e
      · rename_i h56
        cases e2 : bm_hol N b with
        | none =>
          rw [e2] at e
          cases e
          exact Or.inr (Or.inr (Or.inl ⟨rfl, rfl, by simp, h56⟩))
        | some p2 =>
          obtain ⟨n2, c2⟩ := p2
          rw [e2] at e
          dsimp only at e
          split at e
          · split at e
            · cases e
            · cases e; exact Or.inl ⟨Or.inl rfl, rfl, h56⟩
          · split at e
            · cases e
            · cases e; exact Or.inl ⟨Or.inr rfl, rfl, h56⟩
      · by_cases c4 : s = 4 ∨ bm_str N = false
        · rw [if_pos c4] at e; cases e
        · rw [if_neg c4] at e
          by_cases c5 : s ≠ 1 ∧ bm_wds X (24 * (if s = 3 then 1 else 0) + (2 * b + bm_num c) * 3 + bm_knd X n) = []
          · rw [if_pos c5] at e; cases e; exact Or.inr (Or.inr (Or.inr ⟨Or.inr rfl, rfl⟩))
          · rw [if_neg c5] at e
            by_cases c6 : s ≠ 3 ∧ bm_def N n b (bm_num c) ≠ 0
            · rw [if_pos c6] at e; cases e; exact Or.inr (Or.inr (Or.inr ⟨Or.inl rfl, rfl⟩))
            · rw [if_neg c6] at e; cases e
/-- what a telling leaves: the line, or why it can't be -/
def by_tn (X : bm_X) (N : bm_N) (m : Nat) (w' : bw_W) : Prop := match bm_whyM X N m with
  | none => by_L (bm_lineM X N m) w' ∧ gw_i w' 50 40 = -1
  | some (i, h, y) => gw_i w' 50 38 = nI i ∧ gw_i w' 50 39 = nI h ∧ gw_i w' 50 40 = nI y
theorem ys_tells {Q : Bool → bw_W → Prop} (hX : by_X X w) (hN : by_N N w) (hW : bm_wfN X N) (hx : bm_wfX X) {m : Nat} (hm : m < bm_nm X) (hq : ∀ w', by_fr [71] [37, 38, 39, 40] w w' → by_tn X N m w' → Q (bm_whyM X N m).isNone w') : bw_rb E (d + 5) mX12_tellsNow [.ref 50, .int (nI m)] w Q := by
  have hm4 := hx.2.1
  obtain ⟨hc1, hc8, hit⟩ := hx.2.2.2.2.1 m hm
  have out : ∀ (i : Nat) (w1 : bw_W), i ≤ 9 → by_X X w1 → ¬ gw_i w1 50 40 = -1 → Q false w1 → bw_G E (d + 5) mX12_tellsNow 12 [some (.ref 50), some (.int (nI m)), some (.int (nI i)), none, none, none, none, none] [] w1 (bw_qb Q) := by
    intro i w1 hi hX1 h40 hq1
    refine wfX12_tellsNow_12 ⟨bm_in (by omega) (by decide), fun _ => br_nt h40 hq1, fun _ => br_nt h40 (br_nt h40 hq1)⟩
  have key : ∀ n i (w1 : bw_W) (l : List Nat), i + n = bm_cnt X m → by_fr [71] [37, 38, 39, 40] w w1 → by_L l w1 → gw_i w1 50 40 = -1 → l.length ≤ 18 * i → bm_why X N m n i = bm_whyM X N m → bm_line X N m n i l = bm_lineM X N m → bw_G E (d + 5) mX12_tellsNow 12 [some (.ref 50), some (.int (nI m)), some (.int (nI i)), none, none, none, none, none] [] w1 (bw_qb Q) := by
    intro n
    induction n with
    | zero =>
      intro i w1 l h1 hf hl h40 h2 h3 h4
      have hX1 := hX.fr hf (by decide) (by decide) (by decide)
      have e : bm_whyM X N m = none := h3.symm
      have e2 : l = bm_lineM X N m := h4
      refine wfX12_tellsNow_12 ⟨bm_in (by omega) (by decide), ?_⟩
      rw [nI_clamp (by omega), (hX1.2.2.2.2 m hm).1]
      refine br_t (nI_le (by omega) (by omega)) (br_nf h40 ?_)
      have := hq w1 hf (by unfold by_tn; rw [e]; exact ⟨e2 ▸ hl, h40⟩)
      rw [e] at this
      exact this
    | succ n ih =>
      intro i w1 l h1 hf hl h40 h2 h3 h4
      have hX1 := hX.fr hf (by decide) (by decide) (by decide)
      have hN1 := hN.fr hf (by decide)
      have hlt : i < bm_cnt X m := by omega
      have hitm := (hX1.2.2.2.2 m hm).2 i hlt
      have hok := hit i hlt
      refine wfX12_tellsNow_12 ⟨bm_in (by omega) (by decide), ?_⟩
      rw [nI_clamp (by omega), (hX1.2.2.2.2 m hm).1]
      refine br_f (nI_ge hlt (by omega)) (br_nf h40 ?_)
      rw [nl_8, pk_mul, nI_add, nl_3, pk_mul, nl_1, nI_add, nl_2, nI_add, nI_clamp (n := 3 * (8 * m + i)) (by omega), nI_clamp (n := 3 * (8 * m + i) + 1) (by omega), nI_clamp (n := 3 * (8 * m + i) + 2) (by omega), hitm.1]
      refine ⟨bm_in (by omega) (by decide), bm_in (by omega) (by decide), bm_in (by omega) (by decide), ?_⟩
      rw [nI_add]
      cases hb : bm_bad X N (bm_it X (8 * m + i)) with
      | none =>
        refine ⟨fun v w7 => (-1 : Int32) = v ∧ w1 = w7, ys_why (d := d + 1) hX1 hN1 hW hx hok hitm.2.2.1 hitm.2.2.2 (by rw [hb]; exact ⟨rfl, rfl⟩), ?_⟩
        rintro _ _ ⟨rfl, rfl⟩
        refine br_nf rfl ⟨_, ys_item (d := d) hX1 hN1 hW hx (by omega) hitm hok hb hl (by omega) (fun w' hf2 hl2 => ?_), fun w11 h => h⟩
        have hln := bm_say_len hW hx hok l
        rw [bm_why, hb] at h3
        exact ih (i + 1) w' _ (by omega) (hf.tr (hf2.up (by decide) (by decide))) hl2 (by rw [hf2.i5 (by decide)]; exact h40) (by omega) h3 h4
      | some p =>
        obtain ⟨hh, y⟩ := p
        obtain ⟨hs0, hcase⟩ := bm_bad_some hb
        rw [bm_why, hb] at h3
        have e : bm_whyM X N m = some (i, hh, y) := h3.symm
        have hy : y ≤ 4 := by omega
        have ym : ¬ nI y = -1 := nI_ne_m1 (by omega)
        have ey : ∀ k, k ≤ 4 → (nI y = nI k ↔ y = k) := fun k hk => nI_eq (by omega) (by omega)
        refine ⟨fun v w7 => nI y = v ∧ w1 = w7, ys_why (d := d + 1) hX1 hN1 hW hx hok hitm.2.2.1 hitm.2.2.2 (by rw [hb]; exact ⟨rfl, rfl⟩), ?_⟩
        rintro _ _ ⟨rfl, rfl⟩
        have fin : ∀ a : Int32, a = nI hh → bw_G E (d + 5) mX12_tellsNow 12 [some (.ref 50), some (.int (nI m)), some (.int (nI (i + 1))), none, none, none, none, none] [] (sw_i (sw_i (sw_i w1 50 38 (nI i)) 50 39 a) 50 40 (nI y)) (bw_qb Q) := by
          intro a ha
          subst ha
          have hf3 : by_fr [71] [37, 38, 39, 40] w1 (sw_i (sw_i (sw_i w1 50 38 (nI i)) 50 39 (nI hh)) 50 40 (nI y)) := (((by_fr.rf _ _ w1).s5 (by decide)).s5 (by decide)).s5 (by decide)
          refine out (i + 1) _ (by omega) (hX1.fr hf3 (by decide) (by decide) (by decide)) (by rw [gs_ii, if_pos ⟨rfl, rfl⟩]; exact ym) ?_
          have := hq _ (hf.tr hf3) (by unfold by_tn; rw [e]; exact ⟨by simp [gs_ii], by simp [gs_ii], by simp [gs_ii]⟩)
          rw [e] at this
          exact this
        refine br_nt ym ?_
        rw [show (0 : Int32) = nI 0 from rfl]
        rcases hcase with ⟨hy2, rfl, h56⟩ | ⟨rfl, rfl, hno⟩ | ⟨rfl, rfl, hno, h56⟩ | ⟨hy2, rfl⟩
        · have e2 := hitm.2.2.2 hs0 (by omega)
          rcases hy2 with rfl | rfl
          · exact br_t rfl (fin _ e2)
          · exact br_f (by decide) (br_t rfl (fin _ e2))
        · have e1 := hitm.2.2.1 hs0
          have hh3 := hok.2.2.1 hs0
          refine br_f (by decide) (br_f (by decide) (br_nf rfl ?_))
          rw [e1]
          exact ⟨yv_in hh3, br_t (yv_none hN1 hh3 hno) (fin _ rfl)⟩
        · have e2 := hitm.2.2.2 hs0 (by omega)
          have e1 := hitm.2.2.1 hs0
          have hh3 := hok.2.2.1 hs0
          refine br_f (by decide) (br_f (by decide) (br_nf rfl ?_))
          rw [e1]
          cases eh : bm_hol N (bm_it X (8 * m + i)).2.1 with
          | none => exact absurd eh hno
          | some p =>
            obtain ⟨n1, c1⟩ := p
            have g1 := (hW.2 _ n1 c1 hh3 eh).1
            have g2 := hx.1
            refine ⟨yv_in hh3, br_f (by rw [yv_noun hN1 hh3 eh]; exact nI_ne_m1 (by omega)) (fin _ e2)⟩
        · have e1 := hitm.2.2.1 hs0
          rcases hy2 with rfl | rfl
          · exact br_f (by decide) (br_f (by decide) (br_nt (by decide) (fin _ e1)))
          · exact br_f (by decide) (br_f (by decide) (br_nt (by decide) (fin _ e1)))
  refine wfX12_tellsNow (key (bm_cnt X m) 0 _ [] (by omega) (((by_fr.rf _ _ w).s5 (by decide)).s5 (by decide)) ⟨rfl, fun i hi => absurd hi (Nat.not_lt_zero i)⟩ ?_ (by simp) rfl rfl)
  rw [gs_ii, if_pos ⟨rfl, rfl⟩]
theorem ys_bits {Q : Int32 → bw_W → Prop} (hX : by_X X w) (hN : by_N N w) (hW : bm_wfN X N) (hx : bm_wfX X) (hq : ∀ w', by_fr [71] [37, 38, 39, 40] w w' → Q (nI (bm_bits X N (bm_nm X))) w') : bw_ri E (d + 6) mX12_tellable [.ref 50] w Q := by
  have hm4 := hx.2.1
  have sh : ∀ i, i < 4 → (1 : Int32) <<< (nI i &&& 31) = nI (2 ^ i) := by decide
  have key : ∀ n i w1, i + n = bm_nm X → by_fr [71] [37, 38, 39, 40] w w1 → bw_G E (d + 6) mX12_tellable 4 [some (.ref 50), some (.int (nI (bm_bits X N i))), some (.int (nI i))] [] w1 (bw_qi Q) := by
    intro n
    induction n with
    | zero =>
      intro i w1 h1 hf
      have e : i = bm_nm X := by omega
      subst e
      refine wfX12_tellable_4 ?_
      rw [hf.i5 (by decide), hX.2.1]
      exact br_t (Int32.le_refl _) (hq w1 hf)
    | succ n ih =>
      intro i w1 h1 hf
      have hX1 := hX.fr hf (by decide) (by decide) (by decide)
      have hN1 := hN.fr hf (by decide)
      refine wfX12_tellable_4 ?_
      rw [hX1.2.1]
      have hlt := bm_bits_lt X N i
      refine br_f (nI_ge (by omega) (by omega)) ⟨_, ys_tells (d := d) (Q := fun v w3 => v = (bm_whyM X N i).isNone ∧ by_fr [71] [37, 38, 39, 40] w1 w3) hX1 hN1 hW hx (by omega) (fun w' hf' _ => ⟨rfl, hf'⟩), ?_⟩
      rintro v w3 ⟨rfl, hf2⟩
      rw [nI_1, sh i (by omega)]
      cases hy : bm_whyM X N i with
      | none =>
        refine ⟨fun q => absurd q (by decide), fun _ => ?_⟩
        have e : nI (bm_bits X N i) ||| nI (2 ^ i) = nI (bm_bits X N (i + 1)) := by
          rw [bm_bits, hy, if_pos rfl, Int32.or_comm]
          have := fa_or_sum (a := bm_bits X N i) (k := i) 1 hlt
          rw [Nat.mul_one] at this
          rw [this, Nat.add_comm]
        rw [e]
        exact ih (i + 1) _ (by omega) (hf.tr hf2)
      | some p =>
        refine ⟨fun _ => ?_, fun q => absurd q (by intro z; cases z)⟩
        have e : nI (bm_bits X N i) ||| 0 = nI (bm_bits X N (i + 1)) := by
          rw [bm_bits, hy, if_neg (by intro q; cases q), Int32.or_zero]; rfl
        rw [e]
        exact ih (i + 1) _ (by omega) (hf.tr hf2)
  exact wfX12_tellable (key (bm_nm X) 0 w (by omega) (by_fr.rf _ _ _))
def bm_bt (n : Nat) : Nat → Nat
  | 0 => 0
  | i + 1 => bm_bt n i + n / 2 ^ i % 2
theorem bm_bt_pop : ∀ n, n < 16 → bm_bt n 8 = bm_pop n := by decide
theorem ys_pop {Q : Int32 → bw_W → Prop} {n : Nat} (hn : n < 16) (hq : Q (nI (bm_pop n)) w) : bw_ri E (d + 0) mX12_bits [.int (nI n)] w Q := by
  have sh : ∀ n, n < 16 → ∀ i, i < 8 → (nI n >>> (nI i &&& 31)) &&& 1 = nI (n / 2 ^ i % 2) := by decide +kernel
  have key : ∀ j i, i + j = 8 → bw_G E (d + 0) mX12_bits 4 [some (.int (nI n)), some (.int (nI (bm_bt n i))), some (.int (nI i))] [] w (bw_qi Q) := by
    intro j
    induction j with
    | zero =>
      intro i h
      have e : i = 8 := by omega
      subst e
      refine wfX12_bits_4 (br_t (by decide) ?_)
      rw [bm_bt_pop n hn]
      exact hq
    | succ j ih =>
      intro i h
      refine wfX12_bits_4 (br_f (nI_ge (a := i) (b := 8) (by omega) (by decide)) ?_)
      rw [sh n hn i (by omega), nI_add, nI_1]
      exact ih (i + 1) (by omega)
  exact wfX12_bits (key 8 0 (by omega))
theorem ys_many {Q : Int32 → bw_W → Prop} (hX : by_X X w) (hN : by_N N w) (hW : bm_wfN X N) (hx : bm_wfX X) (hq : ∀ w', by_fr [71] [37, 38, 39, 40] w w' → Q (nI (bm_many X N (bm_nm X))) w') : bw_ri E (d + 7) mX12_tellableMany [.ref 50] w Q := by
  refine wfX12_tellableMany ⟨fun v w3 => nI (bm_bits X N (bm_nm X)) = v ∧ by_fr [71] [37, 38, 39, 40] w w3, ys_bits (d := d) hX hN hW hx (fun w' hf => ⟨rfl, hf⟩), ?_⟩
  rintro _ w3 ⟨rfl, hf⟩
  have hlt := bm_bits_lt X N (bm_nm X)
  have : 2 ^ bm_nm X ≤ 2 ^ 4 := Nat.pow_le_pow_right (by decide) hx.2.1
  refine ⟨Q, ys_pop (d := d + 6) (by omega) ?_, fun v w6 h => h⟩
  rw [bm_pop_many X N hx.2.1]
  exact hq w3 hf
end MTELL2
