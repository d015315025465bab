/-! guesses: telling as the tape -/
def bg_pre (l t : List Nat) : Prop := l.length ≤ t.length ∧ ∀ i, i < l.length → l.getD i 0 = t.getD i 0
theorem bg_gda {l s : List Nat} {i : Nat} (h : i < l.length) : (l ++ s).getD i 0 = l.getD i 0 := by
  rw [List.getD_eq_getElem?_getD, List.getD_eq_getElem?_getD, List.getElem?_append_left h]
theorem bg_pre_mono {l s t : List Nat} (h : bg_pre (l ++ s) t) : bg_pre l t := by
  have h1 := h.1
  rw [List.length_append] at h1
  refine ⟨by omega, fun i hi => ?_⟩
  rw [← h.2 i (by rw [List.length_append]; omega), bg_gda hi]
theorem bg_pre_eq {l t : List Nat} (h : bg_pre l t) (e : l.length = t.length) : l = t := by
  apply List.ext_getElem e
  intro i h1 h2
  have := h.2 i h1
  rw [List.getD_eq_getElem?_getD, List.getD_eq_getElem?_getD, List.getElem?_eq_getElem h1, List.getElem?_eq_getElem h2] at this
  exact this
theorem bg_pre_rf (t : List Nat) : bg_pre t t := ⟨Nat.le_refl _, fun _ _ => rfl⟩
theorem bm_app_pre (l t : List Nat) : ∃ s, bm_app l t = l ++ s := by
  unfold bm_app
  by_cases h1 : t = []
  · rw [if_pos h1]; exact ⟨[], (List.append_nil l).symm⟩
  · rw [if_neg h1]
    by_cases h2 : l = []
    · rw [if_pos h2, h2]; exact ⟨t, rfl⟩
    · rw [if_neg h2]; exact ⟨32 :: t, rfl⟩
theorem bm_say_pre (X : bm_X) (N : bm_N) (q : Nat × Nat × Nat × List Nat) (l : List Nat) : ∃ s, bm_say X N q l = l ++ s := by
  unfold bm_say
  by_cases h0 : q.1 = 0
  · rw [if_pos h0]; exact bm_app_pre _ _
  · rw [if_neg h0]
    cases bm_hol N q.2.1 with
    | none => exact ⟨[], (List.append_nil l).symm⟩
    | some p =>
      obtain ⟨n, c⟩ := p
      dsimp only
      by_cases h1 : q.1 = 1
      · rw [if_pos h1]; exact bm_app_pre _ _
      rw [if_neg h1]
      by_cases h2 : q.1 = 2
      · rw [if_pos h2]
        obtain ⟨s1, e1⟩ := bm_app_pre l (bm_by (bm_wd X 0 q.2.2.1 (bm_num c) (bm_knd X n)))
        obtain ⟨s2, e2⟩ := bm_app_pre (bm_app l (bm_by (bm_wd X 0 q.2.2.1 (bm_num c) (bm_knd X n)))) (bm_by (bm_form X N n q.2.2.1 (bm_num c)))
        exact ⟨s1 ++ s2, by rw [e2, e1, List.append_assoc]⟩
      rw [if_neg h2]
      by_cases h3 : q.1 = 3
      · rw [if_pos h3]; exact bm_app_pre _ _
      rw [if_neg h3]
      by_cases h4 : q.1 = 4
      · rw [if_pos h4]; exact bm_app_pre _ _
      rw [if_neg h4]; exact ⟨[], (List.append_nil l).symm⟩
theorem bm_line_pre (X : bm_X) (N : bm_N) (m : Nat) : ∀ n i l, ∃ s, bm_line X N m n i l = l ++ s
  | 0, _, l => ⟨[], (List.append_nil l).symm⟩
  | n + 1, i, l => by
    obtain ⟨s1, e1⟩ := bm_say_pre X N (bm_it X (8 * m + i)) l
    obtain ⟨s2, e2⟩ := bm_line_pre X N m n (i + 1) (bm_say X N (bm_it X (8 * m + i)) l)
    exact ⟨s1 ++ s2, by rw [bm_line, e2, e1, List.append_assoc]⟩
/-- a message is told just as t -/
def bg_as (X : bm_X) (N : bm_N) (m : Nat) (t : List Nat) : Prop := bm_whyM X N m = none ∧ bm_lineM X N m = t
def bg_asb (X : bm_X) (N : bm_N) (m : Nat) (t : List Nat) : Bool := (bm_whyM X N m).isNone && decide (bm_lineM X N m = t)
theorem bg_asb_iff {X : bm_X} {N : bm_N} {m : Nat} {t : List Nat} : bg_asb X N m t = true ↔ bg_as X N m t := by
  unfold bg_asb bg_as
  rw [Bool.and_eq_true, decide_eq_true_iff, Option.isNone_iff_eq_none]
theorem bm_by_b {u : List Nat} (h : bm_ok u) : ∀ x ∈ bm_by u, x < 256 := by
  intro x hx
  obtain ⟨y, hy, rfl⟩ := List.mem_map.mp hx
  have := h.2 y hy
  show 96 + y < 256
  omega
theorem bm_app_b {l t : List Nat} (h1 : ∀ x ∈ l, x < 256) (h2 : ∀ x ∈ t, x < 256) : ∀ x ∈ bm_app l t, x < 256 := by
  intro x hx
  unfold bm_app at hx
  split at hx
  · exact h1 x hx
  split at hx
  · exact h2 x hx
  · rcases List.mem_append.mp hx with h | h
    · exact h1 x h
    · rcases List.mem_cons.mp h with rfl | h
      · decide
      · exact h2 x h
theorem bm_dig_b {c : Nat} (h : c ≤ 99) : ∀ x ∈ bm_dig c, x < 256 := by
  intro x hx
  unfold bm_dig at hx
  split at hx
  · rcases List.mem_cons.mp hx with rfl | hx
    · omega
    · rw [List.mem_singleton.mp hx]; omega
  · rw [List.mem_singleton.mp hx]; omega
theorem bm_say_b {X : bm_X} {N : bm_N} (hW : bm_wfN X N) (hx : bm_wfX X) {q : Nat × Nat × Nat × List Nat} (ho : bm_itok q) {l : List Nat} (hl : ∀ x ∈ l, x < 256) : ∀ x ∈ bm_say X N q l, x < 256 := by
  obtain ⟨s, h, b, u⟩ := q
  obtain ⟨o1, o2, o3, o4, o5⟩ := ho
  dsimp only at o1 o2 o3 o4 o5
  unfold bm_say
  dsimp only
  by_cases h0 : s = 0
  · rw [if_pos h0]; exact bm_app_b hl (bm_by_b (o2 h0).1)
  · rw [if_neg h0]
    cases e : bm_hol N h with
    | none => exact hl
    | some p =>
      obtain ⟨n, c⟩ := p
      have g1 := hW.2 h n c (o3 h0) e
      have g3 := (hx.2.2.1 n g1.1).2.2
      dsimp only
      by_cases h1 : s = 1
      · rw [if_pos h1]; exact bm_app_b hl (bm_by_b (bm_form_ok hW hx g1.1 (o4 (by omega)) (bm_num_lt c)))
      rw [if_neg h1]
      by_cases h2 : s = 2
      · rw [if_pos h2]
        exact bm_app_b (bm_app_b hl (bm_by_b (bm_wd_ok hx (p := 0) (by omega) (o4 (by omega)) (bm_num_lt c) g3))) (bm_by_b (bm_form_ok hW hx g1.1 (o4 (by omega)) (bm_num_lt c)))
      rw [if_neg h2]
      by_cases h3 : s = 3
      · rw [if_pos h3]; exact bm_app_b hl (bm_by_b (bm_wd_ok hx (p := 1) (by omega) (o4 (by omega)) (bm_num_lt c) g3))
      rw [if_neg h3]
      by_cases h4 : s = 4
      · rw [if_pos h4]; exact bm_app_b hl (bm_dig_b g1.2)
      rw [if_neg h4]; exact hl
theorem bm_line_b {X : bm_X} {N : bm_N} (hW : bm_wfN X N) (hx : bm_wfX X) {m : Nat} (hm : m < bm_nm X) : ∀ n i l, i + n = bm_cnt X m → (∀ x ∈ l, x < 256) → ∀ x ∈ bm_line X N m n i l, x < 256
  | 0, _, l, _, h => h
  | n + 1, i, l, hi, h => bm_line_b hW hx hm n (i + 1) _ (by omega) (bm_say_b hW hx ((hx.2.2.2.2.1 m hm).2.2 i (by omega)) h)
section GUESS
variable {E : bw_E} {d : Nat} {w : bw_W} {X : bm_X} {N : bm_N} {t : List Nat}
theorem xs_lineAs {Q : Bool → bw_W → Prop} {l s : List Nat} (ht : bm_wfT t) (hT : bx_T t w) (hL : bx_L (l ++ s) w) (h1 : (l ++ s).length ≤ 144) (hB : ∀ x ∈ l ++ s, x < 256) (hp : bg_pre l t) (hy : bg_pre (l ++ s) t → Q true w) (hn : ¬ bg_pre (l ++ s) t → Q false w) : bw_rb E (d + 0) mX10_isLineAs [.ref 35, .ref 1, .int (nI l.length)] w Q := by
  have hT1 := ht.1
  refine wfX10_isLineAs ?_
  rw [hL.1, hT.1, nI_leI (by omega) (by omega)]
  refine ⟨fun z => ?_, fun z => hn (fun q => z q.1)⟩
  have key : ∀ n i, i + n = (l ++ s).length → l.length ≤ i → (∀ j, j < i → (l ++ s).getD j 0 = t.getD j 0) → bw_G E (d + 0) mX10_isLineAs 15 [some (.ref 35), some (.ref 1), some (.int (nI l.length)), some (.int (nI i))] [] w (bw_qb Q) := by
    intro n
    induction n with
    | zero =>
      intro i h hl hj
      refine wfX10_isLineAs_15 ?_
      rw [hL.1]
      exact br_t (nI_le (by omega) (by omega)) (hy ⟨z, fun j hj2 => hj j (by omega)⟩)
    | succ n ih =>
      intro i h hl hj
      refine wfX10_isLineAs_15 ?_
      rw [hL.1]
      refine br_f (nI_ge (by omega) (by omega)) ⟨bm_in (by omega) (by decide), bm_in (by omega) (by decide), ?_⟩
      have g1 := hL.2 i (by omega)
      have g2 := hT.2 i (by omega)
      have b2 : t.getD i 0 < 256 := bm_b_lt i ht
      rw [nI_clamp (by omega), g1, g2, nI_1]
      by_cases c : (l ++ s).getD i 0 = t.getD i 0
      · refine ⟨fun _ => ih (i + 1) (by omega) (by omega) (fun j hj2 => ?_), fun y => absurd (by rw [c]) y⟩
        by_cases e : j = i
        · rw [e]; exact c
        · exact hj j (by omega)
      · refine ⟨fun y => ?_, fun _ => hn (fun q => c (q.2 i (by omega)))⟩
        exfalso
        apply c
        have b1 : (l ++ s).getD i 0 < 256 := by
          rw [List.getD_eq_getElem?_getD, List.getElem?_eq_getElem (show i < (l ++ s).length by omega)]
          exact hB _ (List.getElem_mem _)
        exact (nI_eq (by omega) (by omega)).mp y
  refine key s.length l.length (by rw [List.length_append]) (Nat.le_refl _) (fun j hj => ?_)
  rw [bg_gda hj]; exact hp.2 j hj
theorem bx_L.fr {l : List Nat} {w' : bw_W} {L : List Nat} (h : bx_L l w) (hf : bw_fr L w w') (h1 : 35 ∉ L) (h2 : 36 ∉ L) : bx_L l w' := ⟨by rw [hf.i h1]; exact h.1, fun i hi => by rw [hf.i h2]; exact h.2 i hi⟩
theorem xs_tellsAs {Q : Bool → bw_W → Prop} (hX : bx_X X w) (hN : bx_N N w) (hW : bm_wfN X N) (hx : bm_wfX X) {m : Nat} (hm : m < bm_nm X) (ht : bm_wfT t) (hT : bx_T t w) (hq : ∀ w', bw_fr [35, 36] w w' → Q (bg_asb X N m t) w') : bw_rb E (d + 4) mX10_tellsAs [.ref 35, .int (nI m), .ref 1] w Q := by
  have hm4 := hx.2.1
  have ht1 := ht.1
  obtain ⟨hc1, hc8, hit⟩ := hx.2.2.2.2.1 m hm
  have yes : bg_as X N m t → ∀ w', bw_fr [35, 36] w w' → Q true w' := fun h w' f => by
    have := hq w' f
    rw [bg_asb_iff.mpr h] at this; exact this
  have no : ¬ bg_as X N m t → ∀ w', bw_fr [35, 36] w w' → Q false w' := fun h w' f => by
    have := hq w' f
    rw [show bg_asb X N m t = false from Bool.eq_false_iff.mpr (fun q => h (bg_asb_iff.mp q))] at this; exact this
  refine wfX10_tellsAs ?_
  rw [nl_8, pk_mul, Nat.mul_comm m 8]
  have key : ∀ n i (w1 : bw_W) (l : List Nat), i + n = bm_cnt X m → bw_fr [35, 36] w w1 → bx_L l w1 → l.length ≤ 18 * i → (∀ x ∈ l, x < 256) → bg_pre l t → bm_line X N m n i l = bm_lineM X N m → bm_why X N m n i = bm_whyM X N m → bw_G E (d + 4) mX10_tellsAs 13 [some (.ref 35), some (.int (nI m)), some (.ref 1), some (.int (nI (8 * m))), some (.int (nI (8 * m + i))), none] [] w1 (bw_qb Q) := by
    intro n
    induction n with
    | zero =>
      intro i w1 l h1 hf hl h2 hb hp h3 h4
      have hX1 := hX.fr hf (by decide)
      have hT1 := hT.fr hf (by decide) (by decide)
      refine wfX10_tellsAs_13 ⟨bm_in (by omega) (by decide), ?_⟩
      rw [nI_clamp (by omega), (hX1.2.2.2.2 m hm).1, nI_add, hl.1, hT1.1, nI_eq (by omega) (by omega)]
      have h3' : l = bm_lineM X N m := h3
      have h4' : none = bm_whyM X N m := h4
      refine br_t (nI_le (by omega) (by omega)) ⟨fun z => no (fun q => z ?_) w1 hf, fun z => yes ⟨h4'.symm, ?_⟩ w1 hf⟩
      · rw [h3', q.2]
      · rw [← h3']; exact bg_pre_eq hp z
    | succ n ih =>
      intro i w1 l h1 hf hl h2 hb hp h3 h4
      have hX1 := hX.fr hf (by decide)
      have hN1 := hN.fr hf (by decide)
      have hT1 := hT.fr hf (by decide) (by decide)
      have hlt : i < bm_cnt X m := by omega
      refine wfX10_tellsAs_13 ⟨bm_in (by omega) (by decide), ?_⟩
      rw [nI_clamp (by omega), (hX1.2.2.2.2 m hm).1, nI_add]
      refine br_f (nI_ge (by omega) (by omega)) ⟨_, xs_item (d := d + 1) (Q := fun v w4 => ((v = true → (∃ Q5 : bw_W → Prop, bw_rv E (d + 3) mX10_putItem [.ref 35, .int (nI (8 * m + i))] w4 Q5 ∧ ∀ w7, Q5 w7 → (∃ Q8 : Bool → bw_W → Prop, bw_rb E (d + 3) mX10_isLineAs [.ref 35, .ref 1, .int (gw_i w4 35 3)] w7 Q8 ∧ ∀ v9 w10, Q8 v9 w10 → ((v9 = true → bw_G E (d + 4) mX10_tellsAs 13 [some (.ref 35), some (.int (nI m)), some (.ref 1), some (.int (nI (8 * m))), some (.int (nI (8 * m + i) + 1)), none] [] w10 (bw_qb Q)) ∧ (v9 = false → Q false w10))))) ∧ (v = false → Q false w4))) hX1 hN1 hW hx (by omega) ((hX1.2.2.2.2 m hm).2 i hlt) (hit i hlt) ?_, fun v w4 h => h⟩
      rw [bm_why] at h4
      cases hbad : bm_bad X N (bm_it X (8 * m + i)) with
      | some p =>
        obtain ⟨p1, p2⟩ := p
        rw [hbad] at h4
        refine ⟨fun z => absurd z br_ft, fun _ => no (fun q => ?_) _ ((hf.si (by decide)).si (by decide))⟩
        rw [q.1] at h4; cases h4
      | none =>
        rw [hbad] at h4
        refine ⟨fun _ => ⟨fun w7 => bw_fr [35, 36] w1 w7 ∧ bx_L (bm_say X N (bm_it X (8 * m + i)) l) w7, xs_putItem (d := d) hX1 hN1 hW hx (by omega) ((hX1.2.2.2.2 m hm).2 i hlt) (hit i hlt) hbad hl (by omega) (fun w' f g => ⟨f, g⟩), ?_⟩, fun z => absurd z br_tf⟩
        rintro w7 ⟨f7, hl7⟩
        have hln := bm_say_len hW hx (hit i hlt) l
        have hb7 := bm_say_b hW hx (hit i hlt) hb
        obtain ⟨s, es⟩ := bm_say_pre X N (bm_it X (8 * m + i)) l
        rw [es] at hl7 hln hb7
        rw [hl.1]
        refine ⟨fun v w10 => w7 = w10 ∧ (v = true ↔ bg_pre (l ++ s) t), xs_lineAs (d := d + 3) ht (hT1.fr f7 (by decide) (by decide)) hl7 (by omega) hb7 hp (fun z => ⟨rfl, iff_of_true rfl z⟩) (fun z => ⟨rfl, iff_of_false br_ft z⟩), ?_⟩
        rintro v9 _ ⟨rfl, hv⟩
        refine ⟨fun z => ?_, fun z => no (fun q => ?_) w7 (hf.tr f7)⟩
        · rw [nI_1, Nat.add_assoc]
          refine ih (i + 1) w7 (l ++ s) (by omega) (hf.tr f7) hl7 (by omega) hb7 (hv.mp z) ?_ h4
          rw [← es]; exact h3
        · have hv2 : ¬ bg_pre (l ++ s) t := fun y => by rw [hv.mpr y] at z; cases z
          apply hv2
          obtain ⟨s2, e2⟩ := bm_line_pre X N m n (i + 1) (l ++ s)
          have e3 : bm_line X N m n (i + 1) (l ++ s) = t := by rw [← es]; exact h3.trans q.2
          exact bg_pre_mono (s := s2) (by rw [← e2, e3]; exact bg_pre_rf t)
  exact key (bm_cnt X m) 0 _ [] (by omega) ((bw_fr.rf _ w).si (by decide)) ⟨rfl, fun i hi => absurd hi (Nat.not_lt_zero i)⟩ (by simp) (fun x hx => by cases hx) ⟨Nat.zero_le _, fun i hi => absurd hi (Nat.not_lt_zero i)⟩ rfl rfl
theorem ys_isTape {Q : Bool → bw_W → Prop} {l : List Nat} (ht : bm_wfT t) (hT : by_T t w) (hL : by_L l w) (h1 : l.length ≤ 144) (hB : ∀ x ∈ l, x < 256) (hq : Q (decide (l = t)) w) : bw_rb E (d + 0) mX12_isTape [.ref 50] w Q := by
  have ht1 := ht.1
  have key : ∀ n i, i + n = t.length → l.length = t.length → (∀ j, j < i → l.getD j 0 = t.getD j 0) → bw_G E (d + 0) mX12_isTape 19 [some (.ref 50), some (.int 1), some (.int (nI i))] [] w (bw_qb Q) := by
    intro n
    induction n with
    | zero =>
      intro i h e hj
      refine wfX12_isTape_19 ?_
      rw [hT.1]
      refine br_t (nI_le (by omega) (by omega)) ⟨true, rfl, ?_⟩
      rw [decide_eq_true (bg_pre_eq ⟨by omega, fun j hj2 => hj j (by omega)⟩ e)] at hq
      exact hq
    | succ n ih =>
      intro i h e hj
      refine wfX12_isTape_19 ?_
      rw [hT.1]
      have g1 := hL.2 i (by omega)
      have g2 := hT.2 i (by omega)
      have b2 : t.getD i 0 < 256 := bm_b_lt i ht
      have b1 : l.getD i 0 < 256 := by
        rw [List.getD_eq_getElem?_getD, List.getElem?_eq_getElem (show i < l.length by omega)]
        exact hB _ (List.getElem_mem _)
      refine br_f (nI_ge (by omega) (by omega)) (br_f (by decide) ⟨bm_in (by omega) (by decide), bm_in (by omega) (by decide), ?_⟩)
      rw [nI_clamp (by omega), g1, g2, nI_1, nI_eq (by omega) (by omega)]
      refine ⟨fun z => ?_, fun z => ih (i + 1) (by omega) e (fun j hj2 => ?_)⟩
      · have hne : l ≠ t := fun q => z (by rw [q])
        rw [decide_eq_false hne] at hq
        refine wfX12_isTape_19 ⟨fun _ => ⟨false, rfl, hq⟩, fun _ => br_t rfl ⟨false, rfl, hq⟩⟩
      · by_cases ej : j = i
        · rw [ej]; exact z
        · exact hj j (by omega)
  refine wfX12_isTape ?_
  rw [hL.1, hT.1, nI_eq (by omega) (by omega)]
  refine ⟨fun z => ?_, fun z => key t.length 0 (by omega) z (fun j hj => absurd hj (Nat.not_lt_zero j))⟩
  have hne : l ≠ t := fun q => z (by rw [q])
  rw [decide_eq_false hne] at hq
  exact wfX12_isTape_19 ⟨fun _ => ⟨false, rfl, hq⟩, fun _ => br_t rfl ⟨false, rfl, hq⟩⟩
end GUESS
