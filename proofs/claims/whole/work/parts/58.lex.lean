/-! lexicons: what a text tells; the class's reader -/
/-- what was read: lexicon, forms, titles -/
abbrev bd_D : Type := bm_X × (Nat → List Nat) × (Nat → List Nat)
def dd_X (D : bd_D) : bm_X := D.1
def dd_f (D : bd_D) : Nat → List Nat := D.2.1
def dd_t (D : bd_D) : Nat → List Nat := D.2.2
def bd_0 : bd_D := ((0, 0, fun _ => [], fun _ => 0, fun _ => [], fun _ => 0, fun _ => (0, 0, 0, [])), fun _ => [], fun _ => [])
def bd_addN (D : bd_D) (u : List Nat) (v : Nat) : bd_D := ((bm_nn (dd_X D) + 1, bm_nm (dd_X D), bm_set (bm_nam (dd_X D)) (bm_nn (dd_X D)) u, bm_set (bm_knd (dd_X D)) (bm_nn (dd_X D)) v, bm_wds (dd_X D), bm_cnt (dd_X D), bm_it (dd_X D)), dd_f D, dd_t D)
def bd_setF (D : bd_D) (j : Nat) (u : List Nat) : bd_D := (dd_X D, bm_set (dd_f D) j u, dd_t D)
def bd_setW (D : bd_D) (j : Nat) (u : List Nat) : bd_D := ((bm_nn (dd_X D), bm_nm (dd_X D), bm_nam (dd_X D), bm_knd (dd_X D), bm_set (bm_wds (dd_X D)) j u, bm_cnt (dd_X D), bm_it (dd_X D)), dd_f D, dd_t D)
def bd_setI (D : bd_D) (k : Nat) (x : Nat × Nat × Nat × List Nat) : bd_D := ((bm_nn (dd_X D), bm_nm (dd_X D), bm_nam (dd_X D), bm_knd (dd_X D), bm_wds (dd_X D), bm_cnt (dd_X D), bm_set (bm_it (dd_X D)) k x), dd_f D, dd_t D)
def bd_addM (D : bd_D) (u : List Nat) (c : Nat) : bd_D := ((bm_nn (dd_X D), bm_nm (dd_X D) + 1, bm_nam (dd_X D), bm_knd (dd_X D), bm_wds (dd_X D), bm_set (bm_cnt (dd_X D)) (bm_nm (dd_X D)) c, bm_it (dd_X D)), dd_f D, bm_set (dd_t D) (bm_nm (dd_X D)) u)
/-- the first of n names from i on that is u -/
def bd_fi (f : Nat → List Nat) (u : List Nat) : Nat → Nat → Option Nat
  | 0, _ => none
  | k + 1, i => if f i = u then some i else bd_fi f u k (i + 1)
theorem bd_fi_some {f : Nat → List Nat} {u : List Nat} : ∀ {k i j : Nat}, bd_fi f u k i = some j → i ≤ j ∧ j < i + k
  | 0, _, _, h => by cases h
  | k + 1, i, j, h => by
    rw [bd_fi] at h
    split at h
    · cases h; omega
    · have := bd_fi_some h; omega
def bm_sgn (c : Nat) : Nat := if c = 35 then 1 else if c = 64 then 2 else if c = 37 then 3 else if c = 36 then 4 else if c = 61 then 5 else if c = 33 then 6 else 0
def bl_noun (t : List Nat) (q q1 : Nat) (D : bd_D) : Nat ⊕ (bd_D × Nat) := if bm_nn (dd_X D) = 6 then .inl q else match bp_word t q1 with
  | none => .inl q1
  | some (u, q2) => match bd_fi (bm_nam (dd_X D)) u (bm_nn (dd_X D)) 0 with
    | some _ => .inl q1
    | none => match bp_num t q2 1 2 with
      | none => .inl q2
      | some (v, q3) => .inr (bd_addN D u v, q3)
/-- a word that can be told once -/
def bl_once (t : List Nat) (q : Nat) (old : List Nat) (μ : Nat ⊕ Nat) (g : List Nat → bd_D) : Nat ⊕ (bd_D × Nat) := match μ with
  | .inl e => .inl e
  | .inr q' => if old ≠ [] then .inl q else match bp_word t q' with
    | none => .inl q'
    | some (u, q2) => .inr (g u, q2)
def bl_form (t : List Nat) (q q1 : Nat) (D : bd_D) : Nat ⊕ (bd_D × Nat) := match bp_word t q1 with
  | none => .inl q1
  | some (u, q2) => match bd_fi (bm_nam (dd_X D)) u (bm_nn (dd_X D)) 0 with
    | none => .inl q1
    | some n => bl_once t q (dd_f D (8 * n + 2 * (bu_num t 1 3 (.inr q2)).1 + (bu_num t 1 1 (bu_num t 1 3 (.inr q2)).2).1)) (bu_num t 1 1 (bu_num t 1 3 (.inr q2)).2).2 (bd_setF D (8 * n + 2 * (bu_num t 1 3 (.inr q2)).1 + (bu_num t 1 1 (bu_num t 1 3 (.inr q2)).2).1))
def bl_slot (t : List Nat) (p q1 : Nat) : Nat := 24 * p + (2 * (bu_num t 1 3 (.inr q1)).1 + (bu_num t 1 1 (bu_num t 1 3 (.inr q1)).2).1) * 3 + (bu_num t 1 2 (bu_num t 1 1 (bu_num t 1 3 (.inr q1)).2).2).1
def bl_bound (t : List Nat) (p q q1 : Nat) (D : bd_D) : Nat ⊕ (bd_D × Nat) := bl_once t q (bm_wds (dd_X D) (bl_slot t p q1)) (bu_num t 1 2 (bu_num t 1 1 (bu_num t 1 3 (.inr q1)).2).2).2 (bd_setW D (bl_slot t p q1))
def bl_item (t : List Nat) (q : Nat) : Nat ⊕ ((Nat × Nat × Nat × List Nat) × Nat) :=
  if bm_sgn (bm_b t q) = 0 then (match bp_word t q with
    | none => .inl q
    | some (u, q') => .inr ((0, 0, 0, u), q'))
  else match (bu_num t 1 2 (.inr (bm_sk t (q + 1)))).2 with
    | .inl e => .inl e
    | .inr q2 => if bm_sgn (bm_b t q) = 4 then .inr ((4, (bu_num t 1 2 (.inr (bm_sk t (q + 1)))).1, 0, []), q2)
      else match bp_num t q2 1 (if bm_sgn (bm_b t q) = 5 ∨ bm_sgn (bm_b t q) = 6 then 2 else 3) with
        | none => .inl q2
        | some (v, q3) => if (bm_sgn (bm_b t q) = 5 ∨ bm_sgn (bm_b t q) = 6) ∧ v = (bu_num t 1 2 (.inr (bm_sk t (q + 1)))).1 then .inl q2 else .inr ((bm_sgn (bm_b t q), (bu_num t 1 2 (.inr (bm_sk t (q + 1)))).1, v, []), q3)
def bl_items (t : List Nat) (m : Nat) : Nat → Nat → Nat → bd_D → Nat ⊕ (bd_D × Nat × Nat)
  | 0, i, q, D => if t.length ≤ q ∨ bm_b t q = 59 then .inr (D, i, q) else .inl q
  | n + 1, i, q, D => if i ≠ 0 ∧ (t.length ≤ q ∨ bm_b t q = 59) then .inr (D, i, q) else match bl_item t q with
    | .inl e => .inl e
    | .inr (x, q') => bl_items t m n (i + 1) q' (bd_setI D (8 * m + i) x)
def bl_msg (t : List Nat) (q q1 : Nat) (D : bd_D) : Nat ⊕ (bd_D × Nat) := if bm_nm (dd_X D) = 4 then .inl q else match bp_word t q1 with
  | none => .inl q1
  | some (u, q2) => match bd_fi (dd_t D) u (bm_nm (dd_X D)) 0 with
    | some _ => .inl q1
    | none => match bl_items t (bm_nm (dd_X D)) 8 0 q2 D with
      | .inl e => .inl e
      | .inr (D', c, q3) => .inr (bd_addM D' u c, q3)
def bl_clause (t : List Nat) (q : Nat) (D : bd_D) : Nat ⊕ (bd_D × Nat) := match bp_word t q with
  | none => .inl q
  | some (u, q1) => if u = bm_kw 0 then bl_noun t q q1 D else if u = bm_kw 1 then bl_form t q q1 D else if u = bm_kw 2 then bl_bound t 0 q q1 D else if u = bm_kw 3 then bl_bound t 1 q q1 D else if u = bm_kw 4 then bl_msg t q q1 D else .inl q
def bl_lex (t : List Nat) : Nat → Nat → bd_D → Nat ⊕ bd_D
  | 0, q, _ => .inl q
  | n + 1, q, D => match bl_clause t q D with
    | .inl e => .inl e
    | .inr (D', q') => if t.length ≤ q' then (if bm_nn (dd_X D') = 0 then .inl q' else .inr D') else if bm_b t q' ≠ 59 then .inl q' else bl_lex t n (bm_sk t (q' + 1)) D'
/-! what is read is a lexicon -/
def bd_wf (D : bd_D) : Prop := bm_nn (dd_X D) ≤ 6 ∧ bm_nm (dd_X D) ≤ 4 ∧ (∀ i, i < bm_nn (dd_X D) → bm_ok (bm_nam (dd_X D) i) ∧ bm_nam (dd_X D) i ≠ [] ∧ bm_knd (dd_X D) i < 3) ∧ (∀ j, j < 48 → bm_ok (bm_wds (dd_X D) j)) ∧ (∀ m, m < bm_nm (dd_X D) → 1 ≤ bm_cnt (dd_X D) m ∧ bm_cnt (dd_X D) m ≤ 8 ∧ ∀ i, i < bm_cnt (dd_X D) m → bm_itok (bm_it (dd_X D) (8 * m + i))) ∧ (∀ j, j < 48 → bm_ok (dd_f D j)) ∧ (∀ j, 8 * bm_nn (dd_X D) ≤ j → dd_f D j = []) ∧ ∀ m, m < bm_nm (dd_X D) → bm_ok (dd_t D m)
theorem bd_wf_0 : bd_wf bd_0 := ⟨Nat.zero_le _, Nat.zero_le _, fun i h => absurd h (Nat.not_lt_zero i), fun _ _ => bm_ok_nil, fun m h => absurd h (Nat.not_lt_zero m), fun _ _ => bm_ok_nil, fun _ _ => rfl, fun m h => absurd h (Nat.not_lt_zero m)⟩
theorem bd_wf_addN {D : bd_D} {u : List Nat} {v : Nat} (h : bd_wf D) (h6 : bm_nn (dd_X D) < 6) (hu : bm_ok u) (h0 : u ≠ []) (hv : v < 3) : bd_wf (bd_addN D u v) := by
  obtain ⟨a, b, c, d, e, f, g, i⟩ := h
  refine ⟨h6, b, fun j hj => ?_, d, e, f, fun j hj => g j ?_, i⟩
  · have hj' : j < bm_nn (dd_X D) + 1 := hj
    show bm_ok (bm_set (bm_nam (dd_X D)) (bm_nn (dd_X D)) u j) ∧ bm_set (bm_nam (dd_X D)) (bm_nn (dd_X D)) u j ≠ [] ∧ bm_set (bm_knd (dd_X D)) (bm_nn (dd_X D)) v j < 3
    by_cases z : j = bm_nn (dd_X D)
    · rw [z, bm_set_eq, bm_set_eq]; exact ⟨hu, h0, hv⟩
    · rw [bm_set_ne z, bm_set_ne z]; exact c j (by omega)
  · have hj' : 8 * (bm_nn (dd_X D) + 1) ≤ j := hj
    omega
theorem bd_wf_setF {D : bd_D} {u : List Nat} {j : Nat} (h : bd_wf D) (hj : j < 8 * bm_nn (dd_X D)) (hu : bm_ok u) : bd_wf (bd_setF D j u) := by
  obtain ⟨a, b, c, d, e, f, g, i⟩ := h
  refine ⟨a, b, c, d, e, fun k hk => ?_, fun k hk => ?_, i⟩
  · show bm_ok (bm_set (dd_f D) j u k)
    by_cases z : k = j
    · rw [z, bm_set_eq]; exact hu
    · rw [bm_set_ne z]; exact f k hk
  · have hk' : 8 * bm_nn (dd_X D) ≤ k := hk
    show bm_set (dd_f D) j u k = []
    rw [bm_set_ne (by omega)]; exact g k hk
theorem bd_wf_setW {D : bd_D} {u : List Nat} {j : Nat} (h : bd_wf D) (hu : bm_ok u) : bd_wf (bd_setW D j u) := by
  obtain ⟨a, b, c, d, e, f, g, i⟩ := h
  refine ⟨a, b, c, fun k hk => ?_, e, f, g, i⟩
  show bm_ok (bm_set (bm_wds (dd_X D)) j u k)
  by_cases z : k = j
  · rw [z, bm_set_eq]; exact hu
  · rw [bm_set_ne z]; exact d k hk
theorem bd_wf_setI {D : bd_D} {k : Nat} {x : Nat × Nat × Nat × List Nat} (h : bd_wf D) (hk : 8 * bm_nm (dd_X D) ≤ k) : bd_wf (bd_setI D k x) := by
  obtain ⟨a, b, c, d, e, f, g, i⟩ := h
  refine ⟨a, b, c, d, fun m hm => ⟨(e m hm).1, (e m hm).2.1, fun j hj => ?_⟩, f, g, i⟩
  have hm' : m < bm_nm (dd_X D) := hm
  have hj' : j < bm_cnt (dd_X D) m := hj
  have := (e m hm).2.1
  show bm_itok (bm_set (bm_it (dd_X D)) k x (8 * m + j))
  rw [bm_set_ne (by omega)]; exact (e m hm).2.2 j hj
theorem bd_wf_addM {D : bd_D} {u : List Nat} {c : Nat} (h : bd_wf D) (h4 : bm_nm (dd_X D) < 4) (hu : bm_ok u) (h1 : 1 ≤ c) (h8 : c ≤ 8) (hi : ∀ i, i < c → bm_itok (bm_it (dd_X D) (8 * bm_nm (dd_X D) + i))) : bd_wf (bd_addM D u c) := by
  obtain ⟨a, b, cc, d, e, f, g, i⟩ := h
  refine ⟨a, h4, cc, d, fun m hm => ?_, f, g, fun m hm => ?_⟩
  · have hm' : m < bm_nm (dd_X D) + 1 := hm
    show 1 ≤ bm_set (bm_cnt (dd_X D)) (bm_nm (dd_X D)) c m ∧ bm_set (bm_cnt (dd_X D)) (bm_nm (dd_X D)) c m ≤ 8 ∧ ∀ i, i < bm_set (bm_cnt (dd_X D)) (bm_nm (dd_X D)) c m → bm_itok (bm_it (dd_X D) (8 * m + i))
    by_cases z : m = bm_nm (dd_X D)
    · rw [z, bm_set_eq]; exact ⟨h1, h8, hi⟩
    · rw [bm_set_ne z]; exact e m (by omega)
  · have hm' : m < bm_nm (dd_X D) + 1 := hm
    show bm_ok (bm_set (dd_t D) (bm_nm (dd_X D)) u m)
    by_cases z : m = bm_nm (dd_X D)
    · rw [z, bm_set_eq]; exact hu
    · rw [bm_set_ne z]; exact i m (by omega)
/-- what a part of a lexicon's text comes to -/
def bl_ok (t : List Nat) (p : Nat) : Nat ⊕ (bd_D × Nat) → Prop
  | .inl e => e ≤ t.length
  | .inr (D, q) => bd_wf D ∧ bm_pl t q ∧ p < q
theorem bl_noun_ok {t : List Nat} {q q1 : Nat} {D : bd_D} (hq : q < q1) (h1 : bm_pl t q1) (hD : bd_wf D) : bl_ok t q (bl_noun t q q1 D) := by
  have := h1.1
  unfold bl_noun
  split
  · show q ≤ t.length; omega
  rename_i h6
  have h6a := hD.1
  cases e : bp_word t q1 with
  | none => exact h1.1
  | some r =>
    obtain ⟨u, q2⟩ := r
    have o := bp_word_some h1.1 e
    dsimp only
    cases e2 : bd_fi (bm_nam (dd_X D)) u (bm_nn (dd_X D)) 0 with
    | some _ => exact h1.1
    | none =>
      dsimp only
      cases e3 : bp_num t q2 1 2 with
      | none => exact o.2.2.2.2.2.2.1
      | some s =>
        obtain ⟨v, q3⟩ := s
        have o3 := bp_num_some o.2.2.2.2.2.2.1 e3
        exact ⟨bd_wf_addN hD (by omega) o.1 o.2.1 (by omega), bp_num_pl o.2.2.2.2.2.2.1 e3, by have := o.2.2.2.2.2.2.2; omega⟩
theorem bl_once_ok {t : List Nat} {q p : Nat} {old : List Nat} {μ : Nat ⊕ Nat} {g : List Nat → bd_D} (hq : q ≤ t.length) (hμ : bu_ok t p μ) (hg : ∀ u, bm_ok u → μ.isRight = true → bd_wf (g u)) : bl_ok t p (bl_once t q old μ g) := by
  unfold bl_once
  cases μ with
  | inl e => exact hμ
  | inr q' =>
    dsimp only
    split
    · exact hq
    cases e : bp_word t q' with
    | none => exact hμ.1.1
    | some r =>
      obtain ⟨u, q2⟩ := r
      have o := bp_word_some hμ.1.1 e
      exact ⟨hg u o.1 rfl, bp_word_pl hμ.1.1 e, by have := o.2.2.2.2.2.2.2; have := hμ.2; omega⟩
theorem bl_form_ok {t : List Nat} {q q1 : Nat} {D : bd_D} (hq : q < q1) (h1 : bm_pl t q1) (hD : bd_wf D) : bl_ok t q (bl_form t q q1 D) := by
  have := h1.1
  unfold bl_form
  cases e : bp_word t q1 with
  | none => exact h1.1
  | some r =>
    obtain ⟨u, q2⟩ := r
    have o := bp_word_some h1.1 e
    dsimp only
    cases e2 : bd_fi (bm_nam (dd_X D)) u (bm_nn (dd_X D)) 0 with
    | none => exact h1.1
    | some n =>
      have hn := bd_fi_some e2
      have a0 : bu_ok t q (.inr q2) := ⟨bp_word_pl h1.1 e, by have := o.2.2.2.2.2.2.2; omega⟩
      have a1 := bu_num_ok (m := 1) (hi := 3) a0
      have a2 := bu_num_ok (m := 1) (hi := 1) a1.1
      exact bl_once_ok (by omega) a2.1 (fun u hu _ => bd_wf_setF hD (by omega) hu)
theorem bl_bound_ok {t : List Nat} {p q q1 : Nat} {D : bd_D} (hq : q < q1) (h1 : bm_pl t q1) (hD : bd_wf D) : bl_ok t q (bl_bound t p q q1 D) := by
  have := h1.1
  have a0 : bu_ok t q (.inr q1) := ⟨h1, hq⟩
  have a1 := bu_num_ok (m := 1) (hi := 3) a0
  have a2 := bu_num_ok (m := 1) (hi := 1) a1.1
  have a3 := bu_num_ok (m := 1) (hi := 2) a2.1
  exact bl_once_ok (by omega) a3.1 (fun u hu _ => bd_wf_setW hD hu)
theorem bl_item_ok {t : List Nat} {q : Nat} (hq : bm_pl t q) : match bl_item t q with
    | .inl e => e ≤ t.length
    | .inr (x, q') => bm_itok x ∧ bm_pl t q' ∧ q < q' := by
  unfold bl_item
  have hs : bm_sgn (bm_b t q) ≤ 6 := by unfold bm_sgn; (repeat' split) <;> omega
  by_cases c : bm_sgn (bm_b t q) = 0
  · rw [if_pos c]
    cases e : bp_word t q with
    | none => exact hq.1
    | some r =>
      obtain ⟨u, q'⟩ := r
      have o := bp_word_some hq.1 e
      exact ⟨⟨Nat.zero_le _, fun _ => ⟨o.1, o.2.1⟩, fun z => absurd rfl z, fun z => (by rcases z with z | z | z <;> cases z), fun z => (by rcases z with z | z <;> cases z)⟩, bp_word_pl hq.1 e, o.2.2.2.2.2.2.2⟩
  · rw [if_neg c]
    have hlt : q < t.length := by
      rcases Nat.lt_or_ge q t.length with z | z
      · exact z
      · rw [bm_b_out z] at c; exact absurd rfl c
    have hge := bm_e_ge (P := bm_bl) rfl (show q + 1 ≤ t.length from hlt)
    have a0 : bu_ok t q (.inr (bm_sk t (q + 1))) := ⟨bm_pl_sk hlt, by show q < bm_sk t (q + 1); exact hge⟩
    have a1 := bu_num_ok (m := 1) (hi := 2) a0
    cases e : (bu_num t 1 2 (.inr (bm_sk t (q + 1)))).2 with
    | inl e0 => rw [e] at a1; exact a1.1
    | inr q2 =>
      rw [e] at a1
      dsimp only
      by_cases c4 : bm_sgn (bm_b t q) = 4
      · rw [if_pos c4]
        exact ⟨⟨by show 4 ≤ 6; omega, fun z => (by cases z), fun _ => Nat.lt_succ_of_le a1.2, fun z => (by rcases z with z | z | z <;> cases z), fun z => (by rcases z with z | z <;> cases z)⟩, a1.1.1, a1.1.2⟩
      · rw [if_neg c4]
        cases e3 : bp_num t q2 1 (if bm_sgn (bm_b t q) = 5 ∨ bm_sgn (bm_b t q) = 6 then 2 else 3) with
        | none => exact a1.1.1.1
        | some r =>
          obtain ⟨v, q3⟩ := r
          have o3 := bp_num_some a1.1.1.1 e3
          have hpl := bp_num_pl a1.1.1.1 e3
          dsimp only
          by_cases c5 : (bm_sgn (bm_b t q) = 5 ∨ bm_sgn (bm_b t q) = 6) ∧ v = (bu_num t 1 2 (.inr (bm_sk t (q + 1)))).1
          · rw [if_pos c5]; exact a1.1.1.1
          · rw [if_neg c5]
            refine ⟨⟨hs, fun z => absurd z c, fun _ => Nat.lt_succ_of_le a1.2, fun z => ?_, fun z => ?_⟩, hpl, by have := a1.1.2; omega⟩
            · have z' : bm_sgn (bm_b t q) = 1 ∨ bm_sgn (bm_b t q) = 2 ∨ bm_sgn (bm_b t q) = 3 := z
              have := o3.1
              rw [if_neg (by omega)] at this
              show v < 4; omega
            · have z' : bm_sgn (bm_b t q) = 5 ∨ bm_sgn (bm_b t q) = 6 := z
              have := o3.1
              rw [if_pos z'] at this
              exact ⟨by show v < 3; omega, fun y => c5 ⟨z', y⟩⟩
theorem bl_items_ok {t : List Nat} {m : Nat} : ∀ (n i q : Nat) (D : bd_D), i + n = 8 → bm_pl t q → bd_wf D → m = bm_nm (dd_X D) → (i = 0 → n ≠ 0) → (∀ j, j < i → bm_itok (bm_it (dd_X D) (8 * m + j))) → match bl_items t m n i q D with
    | .inl e => e ≤ t.length
    | .inr (D', c, q') => bd_wf D' ∧ bm_nm (dd_X D') = m ∧ 1 ≤ c ∧ c ≤ 8 ∧ bm_pl t q' ∧ q ≤ q' ∧ (∀ j, j < c → bm_itok (bm_it (dd_X D') (8 * m + j)))
  | 0, i, q, D, hi, hq, hD, hm, h0, hj => by
    rw [bl_items]
    by_cases c : t.length ≤ q ∨ bm_b t q = 59
    · rw [if_pos c]; exact ⟨hD, hm.symm, by omega, by omega, hq, Nat.le_refl _, hj⟩
    · rw [if_neg c]; exact hq.1
  | n + 1, i, q, D, hi, hq, hD, hm, h0, hj => by
    rw [bl_items]
    by_cases c : i ≠ 0 ∧ (t.length ≤ q ∨ bm_b t q = 59)
    · rw [if_pos c]; exact ⟨hD, hm.symm, by omega, by omega, hq, Nat.le_refl _, hj⟩
    · rw [if_neg c]
      have a := bl_item_ok hq
      cases e : bl_item t q with
      | inl e0 => rw [e] at a; exact a
      | inr r =>
        obtain ⟨x, q'⟩ := r
        rw [e] at a
        dsimp only
        have b := bl_items_ok n (i + 1) q' (bd_setI D (8 * m + i) x) (by omega) a.2.1 (bd_wf_setI hD (by omega)) hm (by omega) (fun j hj2 => by
          show bm_itok (bm_set (bm_it (dd_X D)) (8 * m + i) x (8 * m + j))
          by_cases z : j = i
          · rw [z, bm_set_eq]; exact a.1
          · rw [bm_set_ne (by omega)]; exact hj j (by omega))
        cases e2 : bl_items t m n (i + 1) q' (bd_setI D (8 * m + i) x) with
        | inl e3 => rw [e2] at b; exact b
        | inr s =>
          obtain ⟨D', c, q3⟩ := s
          rw [e2] at b
          obtain ⟨b1, b2, b3, b4, b5, b6, b7⟩ := b
          exact ⟨b1, b2, b3, b4, b5, by have := a.2.2; omega, b7⟩
theorem bl_msg_ok {t : List Nat} {q q1 : Nat} {D : bd_D} (hq : q < q1) (h1 : bm_pl t q1) (hD : bd_wf D) : bl_ok t q (bl_msg t q q1 D) := by
  have := h1.1
  have h4a := hD.2.1
  unfold bl_msg
  split
  · show q ≤ t.length; omega
  rename_i h4
  cases e : bp_word t q1 with
  | none => exact h1.1
  | some r =>
    obtain ⟨u, q2⟩ := r
    have o := bp_word_some h1.1 e
    dsimp only
    cases e2 : bd_fi (dd_t D) u (bm_nm (dd_X D)) 0 with
    | some _ => exact h1.1
    | none =>
      dsimp only
      have b := bl_items_ok 8 0 q2 D (by omega) (bp_word_pl h1.1 e) hD rfl (by decide) (fun j hj => absurd hj (Nat.not_lt_zero j))
      cases e3 : bl_items t (bm_nm (dd_X D)) 8 0 q2 D with
      | inl e0 => rw [e3] at b; exact b
      | inr s =>
        obtain ⟨D', c, q3⟩ := s
        rw [e3] at b
        obtain ⟨b1, b2, b3, b4, b5, b6, b7⟩ := b
        exact ⟨bd_wf_addM b1 (by omega) o.1 b3 b4 (fun i hi => by rw [b2]; exact b7 i hi), b5, by have := o.2.2.2.2.2.2.2; omega⟩
theorem bl_clause_ok {t : List Nat} {q : Nat} {D : bd_D} (hq : bm_pl t q) (hD : bd_wf D) : bl_ok t q (bl_clause t q D) := by
  unfold bl_clause
  cases e : bp_word t q with
  | none => exact hq.1
  | some r =>
    obtain ⟨u, q1⟩ := r
    have o := bp_word_some hq.1 e
    have h1 := bp_word_pl hq.1 e
    have hlt := o.2.2.2.2.2.2.2
    dsimp only
    split
    · exact bl_noun_ok hlt h1 hD
    split
    · exact bl_form_ok hlt h1 hD
    split
    · exact bl_bound_ok hlt h1 hD
    split
    · exact bl_bound_ok hlt h1 hD
    split
    · exact bl_msg_ok hlt h1 hD
    · exact hq.1
theorem bl_lex_ok {t : List Nat} : ∀ (n q : Nat) (D : bd_D), bm_pl t q → bd_wf D → match bl_lex t n q D with
    | .inl e => e ≤ t.length
    | .inr D' => bd_wf D' ∧ bm_nn (dd_X D') ≠ 0
  | 0, q, D, hq, _ => hq.1
  | n + 1, q, D, hq, hD => by
    have a := bl_clause_ok hq hD
    rw [bl_lex]
    cases e : bl_clause t q D with
    | inl e0 => rw [e] at a; exact a
    | inr r =>
      obtain ⟨D', q'⟩ := r
      rw [e] at a
      obtain ⟨a1, a2, a3⟩ := a
      dsimp only
      by_cases c : t.length ≤ q'
      · rw [if_pos c]
        by_cases c2 : bm_nn (dd_X D') = 0
        · rw [if_pos c2]; exact a2.1
        · rw [if_neg c2]; exact ⟨a1, c2⟩
      · rw [if_neg c]
        by_cases c2 : bm_b t q' ≠ 59
        · rw [if_pos c2]; exact a2.1
        · rw [if_neg c2]
          exact bl_lex_ok n _ D' (bm_pl_sk (by omega)) a1
