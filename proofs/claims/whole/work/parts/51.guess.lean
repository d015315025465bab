/-! guesses: telling as the tape -/
def bg_pre (l t : List Nat) : Prop := l.length ≤ t.length ∧ ∀ i, i < l.length → l.getD i 0 = t.getD i 0
theorem bg_gda {l s : List Nat} {i : Nat} (h : i < l.length) : (l ++ s).getD i 0 = l.getD i 0 := by
  rw [List.getD_eq_getElem?_getD, List.getD_eq_getElem?_getD, List.getElem?_append_left h]
theorem bg_pre_mono {l s t : List Nat} (h : bg_pre (l ++ s) t) : bg_pre l t := by
  have h1 := h.1
  rw [List.length_append] at h1
  refine ⟨by omega, fun i hi => ?_⟩
  rw [← h.2 i (by rw [List.length_append]; omega), bg_gda hi]
theorem bg_pre_eq {l t : List Nat} (h : bg_pre l t) (e : l.length = t.length) : l = t := by
  apply List.ext_getElem e
  intro i h1 h2
  have := h.2 i h1
  rw [List.getD_eq_getElem?_getD, List.getD_eq_getElem?_getD, List.getElem?_eq_getElem h1, List.getElem?_eq_getElem h2] at this
  exact this
theorem bg_pre_rf (t : List Nat) : bg_pre t t := ⟨Nat.le_refl _, fun _ _ => rfl⟩
theorem bm_app_pre (l t : List Nat) : ∃ s, bm_app l t = l ++ s := by
  unfold bm_app
  by_cases h1 : t = []
  · rw [if_pos h1]; exact ⟨[], (List.append_nil l).symm⟩
  · rw [if_neg h1]
    by_cases h2 : l = []
    · rw [if_pos h2, h2]; exact ⟨t, rfl⟩
    · rw [if_neg h2]; exact ⟨32 :: t, rfl⟩
theorem bm_say_pre (X : bm_X) (N : bm_N) (q : Nat × Nat × Nat × List Nat) (l : List Nat) : ∃ s, bm_say X N q l = l ++ s := by
  unfold bm_say
  by_cases h0 : q.1 = 0
  · rw [if_pos h0]; exact bm_app_pre _ _
  · rw [if_neg h0]
    cases bm_hol N q.2.1 with
    | none => exact ⟨[], (List.append_nil l).symm⟩
    | some p =>
      obtain ⟨n, c⟩ := p
      dsimp only
      by_cases h1 : q.1 = 1
      · rw [if_pos h1]; exact bm_app_pre _ _
      rw [if_neg h1]
      by_cases h2 : q.1 = 2
      · rw [if_pos h2]
        obtain ⟨s1, e1⟩ := bm_app_pre l (bm_by (bm_wd X 0 q.2.2.1 (bm_num c) (bm_knd X n)))
        obtain ⟨s2, e2⟩ := bm_app_pre (bm_app l (bm_by (bm_wd X 0 q.2.2.1 (bm_num c) (bm_knd X n)))) (bm_by (bm_form X N n q.2.2.1 (bm_num c)))
        exact ⟨s1 ++ s2, by rw [e2, e1, List.append_assoc]⟩
      rw [if_neg h2]
      by_cases h3 : q.1 = 3
      · rw [if_pos h3]; exact bm_app_pre _ _
      rw [if_neg h3]
      by_cases h4 : q.1 = 4
      · rw [if_pos h4]; exact bm_app_pre _ _
      rw [if_neg h4]; exact ⟨[], (List.append_nil l).symm⟩
theorem bm_line_pre (X : bm_X) (N : bm_N) (m : Nat) : ∀ n i l, ∃ s, bm_line X N m n i l = l ++ s
  | 0, _, l => ⟨[], (List.append_nil l).symm⟩
  | n + 1, i, l => by
    obtain ⟨s1, e1⟩ := bm_say_pre X N (bm_it X (8 * m + i)) l
    obtain ⟨s2, e2⟩ := bm_line_pre X N m n (i + 1) (bm_say X N (bm_it X (8 * m + i)) l)
    exact ⟨s1 ++ s2, by rw [bm_line, e2, e1, List.append_assoc]⟩
/-- a message is told just as t -/
def bg_as (X : bm_X) (N : bm_N) (m : Nat) (t : List Nat) : Prop := bm_whyM X N m = none ∧ bm_lineM X N m = t
noncomputable def bg_asb (X : bm_X) (N : bm_N) (m : Nat) (t : List Nat) : Bool := (bm_whyM X N m).isNone && decide (bm_lineM X N m = t)
theorem bg_asb_iff {X : bm_X} {N : bm_N} {m : Nat} {t : List Nat} : bg_asb X N m t = true ↔ bg_as X N m t := by
  unfold bg_asb bg_as
  rw [Bool.and_eq_true, decide_eq_true_iff, Option.isNone_iff_eq_none]
section GUESS
variable {E : bw_E} {d : Nat} {w : bw_W} {X : bm_X} {N : bm_N} {t : List Nat}
theorem xs_lineAs {Q : Bool → bw_W → Prop} {l s : List Nat} (ht : bm_wfT t) (hT : bx_T t w) (hL : bx_L (l ++ s) w) (h1 : (l ++ s).length ≤ 144) (hp : bg_pre l t) (hy : bg_pre (l ++ s) t → Q true w) (hn : ¬ bg_pre (l ++ s) t → Q false w) : bw_rb E (d + 0) mX10_isLineAs [.ref 35, .ref 1, .int (nI l.length)] w Q := by
  have hT1 := ht.1
  refine wfX10_isLineAs ?_
  rw [hL.1, hT.1, nI_leI (by omega) (by omega)]
  refine ⟨fun z => ?_, fun z => hn (fun q => z q.1)⟩
  have key : ∀ n i, i + n = (l ++ s).length → l.length ≤ i → (∀ j, j < i → (l ++ s).getD j 0 = t.getD j 0) → bw_G E (d + 0) mX10_isLineAs 15 [some (.ref 35), some (.ref 1), some (.int (nI l.length)), some (.int (nI i))] [] w (bw_qb Q) := by
    intro n
    induction n with
    | zero =>
      intro i h hl hj
      refine wfX10_isLineAs_15 ?_
      rw [hL.1]
      exact br_t (nI_le (by omega) (by omega)) (hy ⟨z, fun j hj2 => hj j (by omega)⟩)
    | succ n ih =>
      intro i h hl hj
      refine wfX10_isLineAs_15 ?_
      rw [hL.1]
      refine br_f (nI_ge (by omega) (by omega)) ⟨bm_in (by omega) (by decide), bm_in (by omega) (by decide), ?_⟩
      have g1 := hL.2 i (by omega)
      have g2 := hT.2 i (by omega)
      have b2 : t.getD i 0 < 256 := bm_b_lt i ht
      rw [nI_clamp (by omega), g1, g2, nI_1]
      by_cases c : (l ++ s).getD i 0 = t.getD i 0
      · refine ⟨fun _ => ih (i + 1) (by omega) (by omega) (fun j hj2 => ?_), fun y => absurd (by rw [c]) y⟩
        by_cases e : j = i
        · rw [e]; exact c
        · exact hj j (by omega)
      · refine ⟨fun y => ?_, fun _ => hn (fun q => c (q.2 i (by omega)))⟩
        exfalso
        apply c
        have e := congrArg Int32.toNatClampNeg y
        have b1 : (l ++ s).getD i 0 % 2 ^ 32 = t.getD i 0 % 2 ^ 32 := by
          have e2 := congrArg (fun v : Int32 => v.toBitVec.toNat) y
          have e3 : (BitVec.ofNat 32 ((l ++ s).getD i 0)).toNat = (BitVec.ofNat 32 (t.getD i 0)).toNat := e2
          rw [BitVec.toNat_ofNat, BitVec.toNat_ofNat] at e3
          exact e3
        sorry
  refine key s.length l.length (by rw [List.length_append]) (Nat.le_refl _) (fun j hj => ?_)
  rw [bg_gda hj]; exact hp.2 j hj
end GUESS
