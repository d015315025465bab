/-! reading: numbers and words one behind another, up to the first that can't be; scripts -/
/-- the next number, word of what is left: where a fault is (inl), where the next part begins (inr) -/
def bu_num (t : List Nat) (m hi : Nat) : Nat ⊕ Nat → Nat × (Nat ⊕ Nat)
  | .inl e => (0, .inl e)
  | .inr q => match bp_num t q m hi with
    | none => (0, .inl q)
    | some (v, q') => (v, .inr q')
def bu_word (t : List Nat) : Nat ⊕ Nat → List Nat × (Nat ⊕ Nat)
  | .inl e => ([], .inl e)
  | .inr q => match bp_word t q with
    | none => ([], .inl q)
    | some (u, q') => (u, .inr q')
theorem bu_num_n {t : List Nat} {m hi q : Nat} (h : bp_num t q m hi = none) : bu_num t m hi (.inr q) = (0, .inl q) := by rw [bu_num, h]
theorem bu_num_s {t : List Nat} {m hi q v q' : Nat} (h : bp_num t q m hi = some (v, q')) : bu_num t m hi (.inr q) = (v, .inr q') := by rw [bu_num, h]
theorem bu_word_n {t : List Nat} {q : Nat} (h : bp_word t q = none) : bu_word t (.inr q) = ([], .inl q) := by rw [bu_word, h]
theorem bu_word_s {t : List Nat} {q q' : Nat} {u : List Nat} (h : bp_word t q = some (u, q')) : bu_word t (.inr q) = (u, .inr q') := by rw [bu_word, h]
/-- where it stands, if it stands -/
def bu_ok (t : List Nat) (p : Nat) : Nat ⊕ Nat → Prop
  | .inl e => e ≤ t.length
  | .inr q => bm_pl t q ∧ p < q
theorem bp_num_pl {t : List Nat} {q q' m hi v : Nat} (hq : q ≤ t.length) (h : bp_num t q m hi = some (v, q')) : bm_pl t q' := by
  unfold bp_num at h
  split at h
  · cases h
    exact bm_pl_sk (bm_e_le (P := bm_dg) rfl hq)
  · cases h
theorem bp_word_pl {t : List Nat} {q q' : Nat} {u : List Nat} (hq : q ≤ t.length) (h : bp_word t q = some (u, q')) : bm_pl t q' := by
  unfold bp_word at h
  split at h
  · cases h
    exact bm_pl_sk (bm_e_le (P := bm_lt) rfl hq)
  · cases h
theorem bu_num_ok {t : List Nat} {m hi p : Nat} {μ : Nat ⊕ Nat} (h : bu_ok t p μ) : bu_ok t p (bu_num t m hi μ).2 ∧ (bu_num t m hi μ).1 ≤ hi := by
  cases μ with
  | inl e => exact ⟨h, Nat.zero_le _⟩
  | inr q =>
    cases e : bp_num t q m hi with
    | none => rw [bu_num_n e]; exact ⟨h.1.1, Nat.zero_le _⟩
    | some r =>
      obtain ⟨v, q'⟩ := r
      rw [bu_num_s e]
      obtain ⟨a, b, c⟩ := bp_num_some h.1.1 e
      exact ⟨⟨bp_num_pl h.1.1 e, Nat.lt_trans h.2 c⟩, a⟩
theorem bu_word_ok {t : List Nat} {p : Nat} {μ : Nat ⊕ Nat} (h : bu_ok t p μ) : bu_ok t p (bu_word t μ).2 ∧ bm_ok (bu_word t μ).1 := by
  cases μ with
  | inl e => exact ⟨h, bm_ok_nil⟩
  | inr q =>
    cases e : bp_word t q with
    | none => rw [bu_word_n e]; exact ⟨h.1.1, bm_ok_nil⟩
    | some r =>
      obtain ⟨u, q'⟩ := r
      rw [bu_word_s e]
      obtain ⟨a, b, c, d, f, g, i, j⟩ := bp_word_some h.1.1 e
      exact ⟨⟨bp_word_pl h.1.1 e, Nat.lt_trans h.2 j⟩, a⟩
/-- a step -/
def bu_step (t : List Nat) (q : Nat) : bm_P × (Nat ⊕ Nat) := match bp_word t q with
  | none => ((0, 0, 0, 0, []), .inl q)
  | some (u, q1) =>
    if u = bm_kw 5 then ((0, (bu_num t 1 2 (.inr q1)).1, (bu_num t 1 9 (bu_num t 1 2 (.inr q1)).2).1, (bu_num t 2 99 (bu_num t 1 9 (bu_num t 1 2 (.inr q1)).2).2).1, []), (bu_num t 2 99 (bu_num t 1 9 (bu_num t 1 2 (.inr q1)).2).2).2)
    else if u = bm_kw 6 then ((1, (bu_num t 1 2 (.inr q1)).1, 0, 0, []), (bu_num t 1 2 (.inr q1)).2)
    else if u = bm_kw 7 then ((2, (bu_num t 1 1 (.inr q1)).1, 0, 0, []), (bu_num t 1 1 (.inr q1)).2)
    else if u = bm_kw 1 then ((3, (bu_num t 1 9 (.inr q1)).1, (bu_num t 1 3 (bu_num t 1 9 (.inr q1)).2).1, (bu_num t 1 1 (bu_num t 1 3 (bu_num t 1 9 (.inr q1)).2).2).1, (bu_word t (bu_num t 1 1 (bu_num t 1 3 (bu_num t 1 9 (.inr q1)).2).2).2).1), (bu_word t (bu_num t 1 1 (bu_num t 1 3 (bu_num t 1 9 (.inr q1)).2).2).2).2)
    else if u = bm_kw 8 then ((4, (bu_num t 1 9 (.inr q1)).1, (bu_num t 1 3 (bu_num t 1 9 (.inr q1)).2).1, (bu_num t 1 1 (bu_num t 1 3 (bu_num t 1 9 (.inr q1)).2).2).1, []), (bu_num t 1 1 (bu_num t 1 3 (bu_num t 1 9 (.inr q1)).2).2).2)
    else ((0, 0, 0, 0, []), .inl q)
theorem bm_stok_0 : bm_stok (0, 0, 0, 0, []) := ⟨by decide, fun _ => ⟨by decide, by decide, by decide⟩, fun z => (by cases z), fun z => (by cases z), fun z => (by rcases z with z | z <;> cases z), bm_ok_nil, fun _ => rfl⟩
theorem bu_step_ok {t : List Nat} {q : Nat} (hq : bm_pl t q) : bu_ok t q (bu_step t q).2 ∧ bm_stok (bu_step t q).1 := by
  unfold bu_step
  cases e : bp_word t q with
  | none => exact ⟨hq.1, bm_stok_0⟩
  | some r =>
    obtain ⟨u, q1⟩ := r
    obtain ⟨a, b, c, d, f, g, i, j⟩ := bp_word_some hq.1 e
    have h1 : bu_ok t q (.inr q1) := ⟨bp_word_pl hq.1 e, j⟩
    dsimp only
    split
    · have a1 := bu_num_ok (m := 1) (hi := 2) h1
      have a2 := bu_num_ok (m := 1) (hi := 9) a1.1
      have a3 := bu_num_ok (m := 2) (hi := 99) a2.1
      exact ⟨a3.1, ⟨by show 0 ≤ 4; omega, fun _ => ⟨Nat.lt_succ_of_le a1.2, a2.2, a3.2⟩, fun z => (by cases z), fun z => (by cases z), fun z => (by rcases z with z | z <;> cases z), bm_ok_nil, fun _ => rfl⟩⟩
    split
    · have a1 := bu_num_ok (m := 1) (hi := 2) h1
      exact ⟨a1.1, ⟨by show 1 ≤ 4; omega, fun z => (by cases z), fun _ => Nat.lt_succ_of_le a1.2, fun z => (by cases z), fun z => (by rcases z with z | z <;> cases z), bm_ok_nil, fun _ => rfl⟩⟩
    split
    · have a1 := bu_num_ok (m := 1) (hi := 1) h1
      exact ⟨a1.1, ⟨by show 2 ≤ 4; omega, fun z => (by cases z), fun z => (by cases z), fun _ => Nat.lt_succ_of_le a1.2, fun z => (by rcases z with z | z <;> cases z), bm_ok_nil, fun _ => rfl⟩⟩
    split
    · have a1 := bu_num_ok (m := 1) (hi := 9) h1
      have a2 := bu_num_ok (m := 1) (hi := 3) a1.1
      have a3 := bu_num_ok (m := 1) (hi := 1) a2.1
      have a4 := bu_word_ok a3.1
      exact ⟨a4.1, ⟨by show 3 ≤ 4; omega, fun z => (by cases z), fun z => (by cases z), fun z => (by cases z), fun _ => ⟨a1.2, Nat.lt_succ_of_le a2.2, Nat.lt_succ_of_le a3.2⟩, a4.2, fun z => absurd rfl z⟩⟩
    split
    · have a1 := bu_num_ok (m := 1) (hi := 9) h1
      have a2 := bu_num_ok (m := 1) (hi := 3) a1.1
      have a3 := bu_num_ok (m := 1) (hi := 1) a2.1
      exact ⟨a3.1, ⟨by show 4 ≤ 4; omega, fun z => (by cases z), fun z => (by cases z), fun z => (by cases z), fun _ => ⟨a1.2, Nat.lt_succ_of_le a2.2, Nat.lt_succ_of_le a3.2⟩, bm_ok_nil, fun _ => rfl⟩⟩
    · exact ⟨hq.1, bm_stok_0⟩
/-- n steps more at most, from q on -/
def bu_scr (t : List Nat) : Nat → Nat → List bm_P → Nat ⊕ List bm_P
  | 0, q, _ => .inl q
  | n + 1, q, acc => match (bu_step t q).2 with
    | .inl e => .inl e
    | .inr q' => if t.length ≤ q' then .inr (acc ++ [(bu_step t q).1]) else if n = 0 ∨ bm_b t q' ≠ 59 then .inl q' else bu_scr t n (bm_sk t (q' + 1)) (acc ++ [(bu_step t q).1])
def br_scr : Nat ⊕ List bm_P → Int32
  | .inl e => nI e
  | .inr _ => -1
theorem bu_scr_ok {t : List Nat} : ∀ (n q : Nat) (acc : List bm_P), bm_pl t q → (∀ p ∈ acc, bm_stok p) → match bu_scr t n q acc with
    | .inl e => e ≤ t.length
    | .inr l => acc.length + 1 ≤ l.length ∧ l.length ≤ acc.length + n ∧ ∀ p ∈ l, bm_stok p
  | 0, q, acc, hq, _ => hq.1
  | n + 1, q, acc, hq, ha => by
    have h := bu_step_ok hq
    have ha' : ∀ p ∈ acc ++ [(bu_step t q).1], bm_stok p := fun p hp => by
      rcases List.mem_append.mp hp with z | z
      · exact ha p z
      · rw [List.mem_singleton.mp z]; exact h.2
    rw [bu_scr]
    cases e : (bu_step t q).2 with
    | inl e0 => rw [e] at h; exact h.1
    | inr q' =>
      rw [e] at h
      dsimp only
      have hl : (acc ++ [(bu_step t q).1]).length = acc.length + 1 := by rw [List.length_append]; rfl
      by_cases c : t.length ≤ q'
      · rw [if_pos c]; exact ⟨by rw [hl]; omega, by rw [hl]; omega, ha'⟩
      · rw [if_neg c]
        by_cases c2 : n = 0 ∨ bm_b t q' ≠ 59
        · rw [if_pos c2]; exact h.1.1.1
        · rw [if_neg c2]
          have := bu_scr_ok n (bm_sk t (q' + 1)) (acc ++ [(bu_step t q).1]) (bm_pl_sk (by omega)) ha'
          cases e2 : bu_scr t n (bm_sk t (q' + 1)) (acc ++ [(bu_step t q).1]) with
          | inl e3 => rw [e2] at this; exact this
          | inr l =>
            rw [e2] at this
            rw [hl] at this
            exact ⟨by omega, by omega, this.2.2⟩
section XSCR
variable {E : bw_E} {d : Nat} {w : bw_W} {t : List Nat} {sp : Nat}
/-- what a reading method of the class answers -/
def bx_q (t : List Nat) (w : bw_W) : Nat ⊕ Nat → Bool → Prop
  | .inl e, b => b = false ∧ gw_i w 3 3 = nI e
  | .inr q, b => b = true ∧ bx_C t q w
theorem xs_numU {Q : Bool → bw_W → Prop} {q m hi : Nat} (hm : m ≤ 2) (hhi : hi < 1000) (ht : bm_wfT t) (hT : bx_T t w) (hC : bx_C t q w) (hq : ∀ b w', bw_fr [3] w w' → bx_q t w' (bu_num t m hi (.inr q)).2 b → (b = true → gw_i w' 3 2 = nI q ∧ gw_i w' 3 4 = nI (bu_num t m hi (.inr q)).1) → Q b w') : bw_rb E (d + 1) mX0_takeNumber [.ref 3, .int (nI m), .int (nI hi)] w Q := by
  refine xs_num hm hhi ht hT hC (fun e w' f g => ?_) (fun v q' e w' f g2 g4 c => ?_)
  · rw [bu_num_n e] at hq
    exact hq false w' f ⟨rfl, g⟩ (fun z => absurd z br_ft)
  · rw [bu_num_s e] at hq
    exact hq true w' f ⟨rfl, c⟩ (fun _ => ⟨g2, g4⟩)
theorem xs_wordU {Q : Bool → bw_W → Prop} {q : Nat} (ht : bm_wfT t) (hT : bx_T t w) (hC : bx_C t q w) (hq : ∀ b w', bw_fr [3] w w' → bx_q t w' (bu_word t (.inr q)).2 b → gw_i w' 3 2 = nI q → (b = true → gw_l w' 3 5 = bx_w (bu_word t (.inr q)).1) → Q b w') : bw_rb E (d + 1) mX0_takeWord [.ref 3] w Q := by
  refine xs_word ht hT hC (fun e w' f g g2 => ?_) (fun u q' e w' f g2 g1 g5 c => ?_)
  · rw [bu_word_n e] at hq
    exact hq false w' f ⟨rfl, g⟩ g2 (fun z => absurd z br_ft)
  · rw [bu_word_s e] at hq
    exact hq true w' f ⟨rfl, c⟩ g2 (fun _ => g5)
theorem bx_spn (h : bw_sh sp = (0, 8, 5)) : sp ≠ 1 ∧ sp ≠ 2 ∧ sp ≠ 3 := by
  refine ⟨?_, ?_, ?_⟩ <;> (rintro rfl; revert h; decide)
theorem bx_sp3 {w' : bw_W} (h : bw_sh sp = (0, 8, 5)) (hf : bw_fr [3] w w') (k : Nat) : gw_i w' sp k = gw_i w sp k ∧ gw_l w' sp k = gw_l w sp k := by
  have := bx_spn h
  have hn : sp ∉ [3] := fun q => this.2.2 (List.mem_singleton.mp q)
  exact ⟨hf.i hn k, hf.l hn k⟩
theorem bx_T.spx {w' : bw_W} (hT : bx_T t w) (h : bw_sh sp = (0, 8, 5)) (hf : bw_fr [3, sp] w w') : bx_T t w' := by
  have := bx_spn h
  refine hT.fr hf (fun q => ?_) (fun q => ?_)
  · rcases List.mem_cons.mp q with z | z
    · cases z
    · exact this.1 (List.mem_singleton.mp z).symm
  · rcases List.mem_cons.mp q with z | z
    · cases z
    · exact this.2.1 (List.mem_singleton.mp z).symm
theorem bx_C.spx {w' : bw_W} {q k : Nat} {v : Int32} (h : bx_C t q w) (hs : bw_sh sp = (0, 8, 5)) (e : w' = sw_i w sp k v) : bx_C t q w' := by
  obtain ⟨p, a, b, c⟩ := h
  refine ⟨p, ?_, b, c⟩
  have := bx_spn hs
  rw [e, gs_ii, if_neg (fun z => this.2.2 z.1.symm)]; exact a
theorem bx_q.spx {k : Nat} {v : Int32} {μ : Nat ⊕ Nat} {b : Bool} (h : bx_q t w μ b) (hs : bw_sh sp = (0, 8, 5)) : bx_q t (sw_i w sp k v) μ b := by
  have := bx_spn hs
  cases μ with
  | inl e => exact ⟨h.1, by rw [gs_ii, if_neg (fun z => this.2.2 z.1.symm)]; exact h.2⟩
  | inr q => exact ⟨h.1, h.2.spx hs rfl⟩
/-- only the field f of the step has changed, besides the cursor -/
def bx_f1 (sp f : Nat) (v : Int32) (w w' : bw_W) : Prop := bw_fr [3, sp] w w' ∧ gw_i w' sp f = v ∧ (∀ k, k ≠ f → gw_i w' sp k = gw_i w sp k) ∧ ∀ k, gw_l w' sp k = gw_l w sp k
theorem bx_f1_of {f : Nat} {v : Int32} {w3 : bw_W} (hs : bw_sh sp = (0, 8, 5)) (hf : bw_fr [3] w w3) : bx_f1 sp f v w (sw_i w3 sp f v) := by
  have := bx_sp3 hs hf
  refine ⟨(hf.up (by simp)).si (by simp), by rw [gs_ii, if_pos ⟨rfl, rfl⟩], fun k hk => ?_, fun k => ?_⟩
  · rw [gs_ii, if_neg (fun z => hk z.2)]; exact (this k).1
  · rw [gs_li]; exact (this k).2
theorem xs_readA {Q : Bool → bw_W → Prop} {q hi : Nat} (hs : bw_sh sp = (0, 8, 5)) (hhi : hi < 1000) (ht : bm_wfT t) (hT : bx_T t w) (hC : bx_C t q w) (hq : ∀ b v w', bx_f1 sp 1 v w w' → bx_q t w' (bu_num t 1 hi (.inr q)).2 b → (b = true → v = nI (bu_num t 1 hi (.inr q)).1) → Q b w') : bw_rb E (d + 2) mX6_readA [.ref 17, .ref sp, .int (nI hi)] w Q := by
  refine wfX6_readA hs ⟨fun b w3 => bw_fr [3] w w3 ∧ bx_q t w3 (bu_num t 1 hi (.inr q)).2 b ∧ (b = true → gw_i w3 3 2 = nI q ∧ gw_i w3 3 4 = nI (bu_num t 1 hi (.inr q)).1), xs_numU (m := 1) (by decide) hhi ht hT hC (fun b w' f g k => ⟨f, g, k⟩), ?_⟩
  rintro b w3 ⟨f3, g3, k3⟩
  exact hq b _ _ (bx_f1_of hs f3) (g3.spx hs) (fun z => (k3 z).2)
theorem xs_readB {Q : Bool → bw_W → Prop} {q hi : Nat} (hs : bw_sh sp = (0, 8, 5)) (hhi : hi < 1000) (ht : bm_wfT t) (hT : bx_T t w) (hC : bx_C t q w) (hq : ∀ b v w', bx_f1 sp 2 v w w' → bx_q t w' (bu_num t 1 hi (.inr q)).2 b → (b = true → v = nI (bu_num t 1 hi (.inr q)).1) → Q b w') : bw_rb E (d + 2) mX6_readB [.ref 17, .ref sp, .int (nI hi)] w Q := by
  refine wfX6_readB hs ⟨fun b w3 => bw_fr [3] w w3 ∧ bx_q t w3 (bu_num t 1 hi (.inr q)).2 b ∧ (b = true → gw_i w3 3 2 = nI q ∧ gw_i w3 3 4 = nI (bu_num t 1 hi (.inr q)).1), xs_numU (m := 1) (by decide) hhi ht hT hC (fun b w' f g k => ⟨f, g, k⟩), ?_⟩
  rintro b w3 ⟨f3, g3, k3⟩
  exact hq b _ _ (bx_f1_of hs f3) (g3.spx hs) (fun z => (k3 z).2)
theorem xs_readC {Q : Bool → bw_W → Prop} {q : Nat} (hs : bw_sh sp = (0, 8, 5)) (ht : bm_wfT t) (hT : bx_T t w) (hC : bx_C t q w) (hq : ∀ b v w', bx_f1 sp 3 v w w' → bx_q t w' (bu_num t 2 99 (.inr q)).2 b → (b = true → v = nI (bu_num t 2 99 (.inr q)).1) → Q b w') : bw_rb E (d + 2) mX6_readCount [.ref 17, .ref sp] w Q := by
  refine wfX6_readCount hs ⟨fun b w3 => bw_fr [3] w w3 ∧ bx_q t w3 (bu_num t 2 99 (.inr q)).2 b ∧ (b = true → gw_i w3 3 2 = nI q ∧ gw_i w3 3 4 = nI (bu_num t 2 99 (.inr q)).1), xs_numU (m := 2) (hi := 99) (by decide) (by decide) ht hT hC (fun b w' f g k => ⟨f, g, k⟩), ?_⟩
  rintro b w3 ⟨f3, g3, k3⟩
  exact hq b _ _ (bx_f1_of hs f3) (g3.spx hs) (fun z => (k3 z).2)
theorem xs_readW {Q : Bool → bw_W → Prop} {q : Nat} (hs : bw_sh sp = (0, 8, 5)) (ht : bm_wfT t) (hT : bx_T t w) (hC : bx_C t q w) (hq : ∀ b w', bw_fr [3, sp] w w' → (∀ k, gw_i w' sp k = gw_i w sp k) → bx_q t w' (bu_word t (.inr q)).2 b → (b = true → gw_l w' sp 4 = bx_w (bu_word t (.inr q)).1) → Q b w') : bw_rb E (d + 2) mX6_readWord [.ref 17, .ref sp] w Q := by
  have hsn := bx_spn hs
  refine wfX6_readWord hs ⟨fun b w3 => bw_fr [3] w w3 ∧ bx_q t w3 (bu_word t (.inr q)).2 b ∧ (b = true → gw_l w3 3 5 = bx_w (bu_word t (.inr q)).1), xs_wordU ht hT hC (fun b w' f g _ k => ⟨f, g, k⟩), ?_⟩
  rintro b w3 ⟨f3, g3, k3⟩
  refine hq b _ ((f3.up (by simp)).sl (by simp)) (fun k => by rw [gs_il]; exact (bx_sp3 hs f3 k).1) ?_ (fun z => by rw [gs_ll, if_pos ⟨rfl, rfl⟩]; exact k3 z)
  cases e : (bu_word t (.inr q)).2 with
  | inl e0 => rw [e] at g3; exact g3
  | inr q' =>
    rw [e] at g3
    obtain ⟨a, p, b1, b2, b3⟩ := g3
    exact ⟨a, p, b1, b2, b3⟩
theorem xs_readSlot {Q : Bool → bw_W → Prop} {q : Nat} (hs : bw_sh sp = (0, 8, 5)) (ht : bm_wfT t) (hT : bx_T t w) (hC : bx_C t q w) (hq : ∀ b w', bw_fr [3, sp] w w' → gw_i w' sp 0 = gw_i w sp 0 → (∀ k, gw_l w' sp k = gw_l w sp k) → bx_q t w' (bu_num t 1 1 (bu_num t 1 3 (bu_num t 1 9 (.inr q)).2).2).2 b → (b = true → gw_i w' sp 1 = nI (bu_num t 1 9 (.inr q)).1 ∧ gw_i w' sp 2 = nI (bu_num t 1 3 (bu_num t 1 9 (.inr q)).2).1 ∧ gw_i w' sp 3 = nI (bu_num t 1 1 (bu_num t 1 3 (bu_num t 1 9 (.inr q)).2).2).1) → Q b w') : bw_rb E (d + 3) mX6_readSlot [.ref 17, .ref sp] w Q := by
  refine wfX6_readSlot hs ⟨fun b w3 => ∃ v, bx_f1 sp 1 v w w3 ∧ bx_q t w3 (bu_num t 1 9 (.inr q)).2 b ∧ (b = true → v = nI (bu_num t 1 9 (.inr q)).1), xs_readA (d := d) (hi := 9) hs (by decide) ht hT hC (fun b v w' f g k => ⟨v, f, g, k⟩), ?_⟩
  rintro b w3 ⟨v3, f3, g3, k3⟩
  cases e1 : (bu_num t 1 9 (.inr q)).2 with
  | inl e0 =>
    rw [e1] at g3 hq
    obtain ⟨rfl, g33⟩ := g3
    exact ⟨fun _ => hq false w3 f3.1 (f3.2.2.1 0 (by decide)) f3.2.2.2 ⟨rfl, g33⟩ (fun z => absurd z br_ft), fun z => absurd z br_ft⟩
  | inr q2 =>
    rw [e1] at g3 hq
    obtain ⟨rfl, c3⟩ := g3
    refine ⟨fun z => absurd z br_tf, fun _ => ⟨fun b w6 => ∃ v, bx_f1 sp 2 v w3 w6 ∧ bx_q t w6 (bu_num t 1 3 (.inr q2)).2 b ∧ (b = true → v = nI (bu_num t 1 3 (.inr q2)).1), xs_readB (d := d) (hi := 3) hs (by decide) ht (hT.spx hs f3.1) c3 (fun b v w' f g k => ⟨v, f, g, k⟩), ?_⟩⟩
    rintro b w6 ⟨v6, f6, g6, k6⟩
    cases e2 : (bu_num t 1 3 (.inr q2)).2 with
    | inl e0 =>
      rw [e2] at g6 hq
      obtain ⟨rfl, g63⟩ := g6
      exact ⟨fun z => absurd z br_ft, fun _ => hq false w6 (f3.1.tr f6.1) ((f6.2.2.1 0 (by decide)).trans (f3.2.2.1 0 (by decide))) (fun k => (f6.2.2.2 k).trans (f3.2.2.2 k)) ⟨rfl, g63⟩ (fun z => absurd z br_ft)⟩
    | inr q3 =>
      rw [e2] at g6 hq
      obtain ⟨rfl, c6⟩ := g6
      refine ⟨fun _ => ⟨fun b w9 => bw_fr [3] w6 w9 ∧ bx_q t w9 (bu_num t 1 1 (.inr q3)).2 b ∧ (b = true → gw_i w9 3 2 = nI q3 ∧ gw_i w9 3 4 = nI (bu_num t 1 1 (.inr q3)).1), xs_numU (d := d + 1) (m := 1) (hi := 1) (by decide) (by decide) ht ((hT.spx hs f3.1).spx hs f6.1) c6 (fun b w' f g k => ⟨f, g, k⟩), ?_⟩, fun z => absurd z br_tf⟩
      rintro b w9 ⟨f9, g9, k9⟩
      have f10 := bx_f1_of (sp := sp) (f := 3) (v := gw_i w9 3 4) hs f9
      refine hq b _ ((f3.1.tr f6.1).tr f10.1) ?_ (fun k => ?_) (g9.spx hs) (fun z => ⟨?_, ?_, ?_⟩)
      · exact (f10.2.2.1 0 (by decide)).trans ((f6.2.2.1 0 (by decide)).trans (f3.2.2.1 0 (by decide)))
      · exact (f10.2.2.2 k).trans ((f6.2.2.2 k).trans (f3.2.2.2 k))
      · exact (f10.2.2.1 1 (by decide)).trans ((f6.2.2.1 1 (by decide)).trans (f3.2.1.trans (k3 rfl)))
      · exact (f10.2.2.1 2 (by decide)).trans (f6.2.1.trans (k6 rfl))
      · exact f10.2.1.trans (k9 z).2
theorem xs_readStep {Q : Bool → bw_W → Prop} {q : Nat} (hs : bw_sh sp = (0, 8, 5)) (ht : bm_wfT t) (hT : bx_T t w) (hC : bx_C t q w) (hq : ∀ b w', bw_fr [3, sp] w w' → bx_q t w' (bu_step t q).2 b → (b = true → bx_st (bu_step t q).1 sp w') → Q b w') : bw_rb E (d + 7) mX6_readStep [.ref 17, .ref sp] w Q := by
  have hsn := bx_spn hs
  have hpl := hC.pl
  refine wfX6_readStep hs ⟨_, xs_word (d := d + 5) (Q := fun v w3 => (v = false → (bp_word t q = none ∧ bw_fr [3] w w3 ∧ gw_i w3 3 3 = nI q)) ∧ (v = true → ∃ u q', bp_word t q = some (u, q') ∧ bw_fr [3] w w3 ∧ gw_i w3 3 2 = nI q ∧ gw_i w3 3 1 = nI (q + u.length) ∧ bx_C t q' w3)) ht hT hC (fun e w' f g _ => ⟨fun _ => ⟨e, f, g⟩, fun z => absurd z br_ft⟩) (fun u q' e w' f g2 g1 _ c => ⟨fun z => absurd z br_tf, fun _ => ⟨u, q', e, f, g2, g1, c⟩⟩), ?_⟩
  rintro v2 w3 ⟨hno, hyes⟩
  refine ⟨fun z => ?_, fun z => ?_⟩
  rotate_left
  · obtain ⟨e, f, g⟩ := hno z
    unfold bu_step at hq
    rw [e] at hq
    exact hq false w3 (f.up (by simp)) ⟨rfl, g⟩ (fun z => absurd z br_ft)
  obtain ⟨u, q1, e, f3, g2, g1, c3⟩ := hyes z
  obtain ⟨o1, o2, o3, o4, o5, o6, o7, o8⟩ := bp_word_some hpl.1 e
  generalize hw4 : sw_l (sw_i (sw_i (sw_i (sw_i w3 sp 0 (-1)) sp 1 0) sp 2 0) sp 3 0) sp 4 0 = w4
  have f4 : bw_fr [sp] w3 w4 := by rw [← hw4]; exact (((((bw_fr.rf _ _).si (by simp)).si (by simp)).si (by simp)).si (by simp)).sl (by simp)
  have f34 : bw_fr [3, sp] w w4 := (f3.up (by simp)).tr (f4.up (by simp))
  have n3 : 3 ∉ [sp] := fun q => hsn.2.2 (List.mem_singleton.mp q).symm
  have hT4 := hT.spx hs f34
  have hC4 : bx_C t q1 w4 := by
    obtain ⟨p, a, b, c⟩ := c3
    exact ⟨p, by rw [f4.i n3]; exact a, b, c⟩
  have h2 : gw_i w4 3 2 = nI q := by rw [f4.i n3]; exact g2
  have h1 : gw_i w4 3 1 = nI (q + u.length) := by rw [f4.i n3]; exact g1
  have z2 : gw_i w4 sp 2 = nI 0 := by rw [← hw4, gs_il, gs_ii, if_neg (by omega), gs_ii, if_pos ⟨rfl, rfl⟩]; rfl
  have z3 : gw_i w4 sp 3 = nI 0 := by rw [← hw4, gs_il, gs_ii, if_pos ⟨rfl, rfl⟩]; rfl
  have z4 : gw_l w4 sp 4 = 0 := by rw [← hw4, gs_ll, if_pos ⟨rfl, rfl⟩]
  have hlt : ∀ j, j < u.length → bm_lt (bm_b t (q + j)) = true := fun j hj => bm_e_all (P := bm_lt) rfl hpl.1 (by omega) (by omega)
  have isw : ∀ k, k < 9 → bw_rb E (d + 6) mX0_wordIs [.ref 3, .ref (1000 + k)] w4 (fun v w' => v = decide (u = bm_kw k) ∧ w4 = w') := fun k hk => xs_wordIs (d := d + 2) hk ht hT4 o3 o1.2 o1.1 o6 hlt h2 h1 ⟨rfl, rfl⟩
  have frn : ∀ s, bw_fr [3, sp] w (sw_i w4 sp 0 s) := fun s => f34.si (by simp)
  have hTn : ∀ s, bx_T t (sw_i w4 sp 0 s) := fun s => hT.spx hs (frn s)
  have hCn : ∀ s, bx_C t q1 (sw_i w4 sp 0 s) := fun s => hC4.spx hs rfl
  unfold bu_step at hq
  rw [e] at hq
  dsimp only at hq
  refine ⟨_, isw 5 (by decide), ?_⟩
  rintro _ _ ⟨rfl, rfl⟩
  by_cases k5 : u = bm_kw 5
  · rw [if_pos k5] at hq
    rw [decide_eq_true k5]
    refine ⟨fun z => absurd z br_tf, fun _ => ⟨fun b w6 => ∃ v, bx_f1 sp 1 v (sw_i w4 sp 0 0) w6 ∧ bx_q t w6 (bu_num t 1 2 (.inr q1)).2 b ∧ (b = true → v = nI (bu_num t 1 2 (.inr q1)).1), xs_readA (d := d + 4) (hi := 2) hs (by decide) ht (hTn 0) (hCn 0) (fun b v w' f g k => ⟨v, f, g, k⟩), ?_⟩⟩
    rintro b w6 ⟨v6, f6, g6, k6⟩
    cases e1 : (bu_num t 1 2 (.inr q1)).2 with
    | inl e0 =>
      rw [e1] at g6 hq
      obtain ⟨rfl, g63⟩ := g6
      exact ⟨fun _ => hq false w6 ((frn 0).tr f6.1) ⟨rfl, g63⟩ (fun z => absurd z br_ft), fun z => absurd z br_ft⟩
    | inr q2 =>
      rw [e1] at g6 hq
      obtain ⟨rfl, c6⟩ := g6
      refine ⟨fun z => absurd z br_tf, fun _ => ⟨fun b w9 => ∃ v, bx_f1 sp 2 v w6 w9 ∧ bx_q t w9 (bu_num t 1 9 (.inr q2)).2 b ∧ (b = true → v = nI (bu_num t 1 9 (.inr q2)).1), xs_readB (d := d + 4) (hi := 9) hs (by decide) ht ((hTn 0).spx hs f6.1) c6 (fun b v w' f g k => ⟨v, f, g, k⟩), ?_⟩⟩
      rintro b w9 ⟨v9, f9, g9, k9⟩
      cases e2 : (bu_num t 1 9 (.inr q2)).2 with
      | inl e0 =>
        rw [e2] at g9 hq
        obtain ⟨rfl, g93⟩ := g9
        exact ⟨fun _ => hq false w9 (((frn 0).tr f6.1).tr f9.1) ⟨rfl, g93⟩ (fun z => absurd z br_ft), fun z => absurd z br_ft⟩
      | inr q3 =>
        rw [e2] at g9 hq
        obtain ⟨rfl, c9⟩ := g9
        refine ⟨fun z => absurd z br_tf, fun _ => ⟨fun b w12 => ∃ v, bx_f1 sp 3 v w9 w12 ∧ bx_q t w12 (bu_num t 2 99 (.inr q3)).2 b ∧ (b = true → v = nI (bu_num t 2 99 (.inr q3)).1), xs_readC (d := d + 4) hs ht (((hTn 0).spx hs f6.1).spx hs f9.1) c9 (fun b v w' f g k => ⟨v, f, g, k⟩), ?_⟩⟩
        rintro b w12 ⟨v12, f12, g12, k12⟩
        have ff := (((frn 0).tr f6.1).tr f9.1).tr f12.1
        refine ⟨fun z => ?_, fun z => ?_⟩
        · rw [← z]; exact hq b w12 ff g12 (fun y => by rw [z] at y; cases y)
        · rw [← z]
          refine hq b w12 ff g12 (fun _ => ⟨?_, ?_, ?_, ?_, ?_⟩)
          · exact (f12.2.2.1 0 (by decide)).trans ((f9.2.2.1 0 (by decide)).trans ((f6.2.2.1 0 (by decide)).trans (by rw [gs_ii, if_pos ⟨rfl, rfl⟩]; rfl)))
          · exact (f12.2.2.1 1 (by decide)).trans ((f9.2.2.1 1 (by decide)).trans (f6.2.1.trans (k6 rfl)))
          · exact (f12.2.2.1 2 (by decide)).trans (f9.2.1.trans (k9 rfl))
          · exact f12.2.1.trans (k12 z)
          · exact (f12.2.2.2 4).trans ((f9.2.2.2 4).trans ((f6.2.2.2 4).trans (by rw [gs_li]; exact z4)))
  rw [if_neg k5] at hq
  rw [decide_eq_false k5]
  refine ⟨fun _ => ⟨_, isw 6 (by decide), ?_⟩, fun z => absurd z br_ft⟩
  rintro _ _ ⟨rfl, rfl⟩
  by_cases k6 : u = bm_kw 6
  · rw [if_pos k6] at hq
    rw [decide_eq_true k6]
    refine ⟨fun z => absurd z br_tf, fun _ => ⟨fun b w6 => ∃ v, bx_f1 sp 1 v (sw_i w4 sp 0 1) w6 ∧ bx_q t w6 (bu_num t 1 2 (.inr q1)).2 b ∧ (b = true → v = nI (bu_num t 1 2 (.inr q1)).1), xs_readA (d := d + 4) (hi := 2) hs (by decide) ht (hTn 1) (hCn 1) (fun b v w' f g k => ⟨v, f, g, k⟩), ?_⟩⟩
    rintro b w6 ⟨v6, f6, g6, kk6⟩
    refine hq b w6 ((frn 1).tr f6.1) g6 (fun z => ⟨?_, ?_, ?_, ?_, ?_⟩)
    · exact (f6.2.2.1 0 (by decide)).trans (by rw [gs_ii, if_pos ⟨rfl, rfl⟩]; rfl)
    · exact f6.2.1.trans (kk6 z)
    · exact (f6.2.2.1 2 (by decide)).trans (by rw [gs_ii, if_neg (by omega)]; exact z2)
    · exact (f6.2.2.1 3 (by decide)).trans (by rw [gs_ii, if_neg (by omega)]; exact z3)
    · exact (f6.2.2.2 4).trans (by rw [gs_li]; exact z4)
  rw [if_neg k6] at hq
  rw [decide_eq_false k6]
  refine ⟨fun _ => ⟨_, isw 7 (by decide), ?_⟩, fun z => absurd z br_ft⟩
  rintro _ _ ⟨rfl, rfl⟩
  by_cases k7 : u = bm_kw 7
  · rw [if_pos k7] at hq
    rw [decide_eq_true k7]
    refine ⟨fun z => absurd z br_tf, fun _ => ⟨fun b w6 => ∃ v, bx_f1 sp 1 v (sw_i w4 sp 0 2) w6 ∧ bx_q t w6 (bu_num t 1 1 (.inr q1)).2 b ∧ (b = true → v = nI (bu_num t 1 1 (.inr q1)).1), xs_readA (d := d + 4) (hi := 1) hs (by decide) ht (hTn 2) (hCn 2) (fun b v w' f g k => ⟨v, f, g, k⟩), ?_⟩⟩
    rintro b w6 ⟨v6, f6, g6, kk6⟩
    refine hq b w6 ((frn 2).tr f6.1) g6 (fun z => ⟨?_, ?_, ?_, ?_, ?_⟩)
    · exact (f6.2.2.1 0 (by decide)).trans (by rw [gs_ii, if_pos ⟨rfl, rfl⟩]; rfl)
    · exact f6.2.1.trans (kk6 z)
    · exact (f6.2.2.1 2 (by decide)).trans (by rw [gs_ii, if_neg (by omega)]; exact z2)
    · exact (f6.2.2.1 3 (by decide)).trans (by rw [gs_ii, if_neg (by omega)]; exact z3)
    · exact (f6.2.2.2 4).trans (by rw [gs_li]; exact z4)
  rw [if_neg k7] at hq
  rw [decide_eq_false k7]
  refine ⟨fun _ => ⟨_, isw 1 (by decide), ?_⟩, fun z => absurd z br_ft⟩
  rintro _ _ ⟨rfl, rfl⟩
  by_cases k1 : u = bm_kw 1
  · rw [if_pos k1] at hq
    rw [decide_eq_true k1]
    refine ⟨fun z => absurd z br_tf, fun _ => ⟨_, xs_readSlot (d := d + 3) (Q := fun b w' => bw_fr [3, sp] (sw_i w4 sp 0 3) w' ∧ gw_i w' sp 0 = gw_i (sw_i w4 sp 0 3) sp 0 ∧ bx_q t w' (bu_num t 1 1 (bu_num t 1 3 (bu_num t 1 9 (.inr q1)).2).2).2 b ∧ (b = true → gw_i w' sp 1 = nI (bu_num t 1 9 (.inr q1)).1 ∧ gw_i w' sp 2 = nI (bu_num t 1 3 (bu_num t 1 9 (.inr q1)).2).1 ∧ gw_i w' sp 3 = nI (bu_num t 1 1 (bu_num t 1 3 (bu_num t 1 9 (.inr q1)).2).2).1)) hs ht (hTn 3) (hCn 3) (fun b w' f g _ k l => ⟨f, g, k, l⟩), ?_⟩⟩
    rintro b w6 ⟨f6, g60, q6, s6⟩
    have ff := (frn 3).tr f6
    cases e1 : (bu_num t 1 1 (bu_num t 1 3 (bu_num t 1 9 (.inr q1)).2).2).2 with
    | inl e0 =>
      rw [e1] at q6 hq
      obtain ⟨rfl, g63⟩ := q6
      exact ⟨fun _ => hq false w6 ff ⟨rfl, g63⟩ (fun z => absurd z br_ft), fun z => absurd z br_ft⟩
    | inr q2 =>
      rw [e1] at q6 hq
      obtain ⟨rfl, c6⟩ := q6
      refine ⟨fun z => absurd z br_tf, fun _ => ⟨fun b w9 => bw_fr [3, sp] w6 w9 ∧ (∀ k, gw_i w9 sp k = gw_i w6 sp k) ∧ bx_q t w9 (bu_word t (.inr q2)).2 b ∧ (b = true → gw_l w9 sp 4 = bx_w (bu_word t (.inr q2)).1), xs_readW (d := d + 4) hs ht ((hTn 3).spx hs f6) c6 (fun b w' f g k l => ⟨f, g, k, l⟩), ?_⟩⟩
      rintro b w9 ⟨f9, g9, q9, l9⟩
      have s6' := s6 rfl
      refine ⟨fun z => ?_, fun z => ?_⟩
      · rw [← z]; exact hq b w9 (ff.tr f9) q9 (fun y => by rw [z] at y; cases y)
      · rw [← z]
        refine hq b w9 (ff.tr f9) q9 (fun _ => ⟨?_, ?_, ?_, ?_, ?_⟩)
        · exact (g9 0).trans (g60.trans (by rw [gs_ii, if_pos ⟨rfl, rfl⟩]; rfl))
        · exact (g9 1).trans s6'.1
        · exact (g9 2).trans s6'.2.1
        · exact (g9 3).trans s6'.2.2
        · exact l9 z
  rw [if_neg k1] at hq
  rw [decide_eq_false k1]
  refine ⟨fun _ => ⟨_, isw 8 (by decide), ?_⟩, fun z => absurd z br_ft⟩
  rintro _ _ ⟨rfl, rfl⟩
  by_cases k8 : u = bm_kw 8
  · rw [if_pos k8] at hq
    rw [decide_eq_true k8]
    refine ⟨fun z => absurd z br_tf, fun _ => ⟨_, xs_readSlot (d := d + 3) (Q := fun b w' => bw_fr [3, sp] (sw_i w4 sp 0 4) w' ∧ gw_i w' sp 0 = gw_i (sw_i w4 sp 0 4) sp 0 ∧ (∀ k, gw_l w' sp k = gw_l (sw_i w4 sp 0 4) sp k) ∧ bx_q t w' (bu_num t 1 1 (bu_num t 1 3 (bu_num t 1 9 (.inr q1)).2).2).2 b ∧ (b = true → gw_i w' sp 1 = nI (bu_num t 1 9 (.inr q1)).1 ∧ gw_i w' sp 2 = nI (bu_num t 1 3 (bu_num t 1 9 (.inr q1)).2).1 ∧ gw_i w' sp 3 = nI (bu_num t 1 1 (bu_num t 1 3 (bu_num t 1 9 (.inr q1)).2).2).1)) hs ht (hTn 4) (hCn 4) (fun b w' f g i k l => ⟨f, g, i, k, l⟩), ?_⟩⟩
    rintro b w6 ⟨f6, g60, l6, q6, s6⟩
    refine hq b w6 ((frn 4).tr f6) q6 (fun z => ⟨?_, (s6 z).1, (s6 z).2.1, (s6 z).2.2, ?_⟩)
    · exact g60.trans (by rw [gs_ii, if_pos ⟨rfl, rfl⟩]; rfl)
    · exact (l6 4).trans (by rw [gs_li]; exact z4)
  rw [if_neg k8] at hq
  rw [decide_eq_false k8]
  refine ⟨fun _ => ?_, fun z => absurd z br_ft⟩
  rw [show decide False = false from rfl]
  refine hq false _ (f34.si (by simp)) ⟨rfl, ?_⟩ (fun z => absurd z br_ft)
  rw [gs_ii, if_pos ⟨rfl, rfl⟩]; exact h2
end XSCR
