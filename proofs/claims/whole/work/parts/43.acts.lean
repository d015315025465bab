/-! ACTS: what they change, why they are refused; the class's side -/
def bm_set {α : Type} (f : Nat → α) (k : Nat) (v : α) : Nat → α := fun j => if j = k then v else f j
theorem bm_set_eq {α : Type} (f : Nat → α) (k : Nat) (v : α) : bm_set f k v k = v := if_pos rfl
theorem bm_set_ne {α : Type} {f : Nat → α} {k j : Nat} {v : α} (h : j ≠ k) : bm_set f k v j = f j := if_neg h
def bm_fc (p : bm_P) : Nat := 8 * p.2.1 + 2 * p.2.2.1 + p.2.2.2.1
def bm_do (N : bm_N) (p : bm_P) : bm_N :=
  if p.1 = 0 then (bm_frm N, bm_set (bm_hol N) p.2.1 (some (p.2.2.1, p.2.2.2.1)), bm_str N)
  else if p.1 = 1 then (bm_frm N, bm_set (bm_hol N) p.2.1 none, bm_str N)
  else if p.1 = 2 then (bm_frm N, bm_hol N, decide (p.2.1 ≠ 0))
  else if p.1 = 3 then (bm_set (bm_frm N) (bm_fc p) p.2.2.2.2, bm_hol N, bm_str N)
  else (bm_set (bm_frm N) (bm_fc p) [], bm_hol N, bm_str N)
/-- it is so -/
def bm_so (N : bm_N) (p : bm_P) : Bool :=
  if p.1 = 0 then decide (bm_hol N p.2.1 = some (p.2.2.1, p.2.2.2.1)) else if p.1 = 1 then decide (bm_hol N p.2.1 = none) else if p.1 = 2 then decide (bm_b2 (bm_str N) = p.2.1) else if p.1 = 3 then decide (bm_frm N (bm_fc p) = p.2.2.2.2) else decide (bm_frm N (bm_fc p) = [])
def bm_rdy (X : bm_X) (p : bm_P) : Prop := bm_nn X ≠ 0 ∧ p.1 ≤ 4 ∧ (p.1 = 0 → p.2.1 < 3 ∧ p.2.2.1 < bm_nn X ∧ p.2.2.2.1 ≤ 99) ∧ (p.1 = 1 → p.2.1 < 3) ∧ (p.1 = 2 → p.2.1 < 2) ∧ ((p.1 = 3 ∨ p.1 = 4) → p.2.1 < bm_nn X ∧ p.2.2.1 < 4 ∧ p.2.2.2.1 < 2) ∧ bm_ok p.2.2.2.2
def br_res (X : bm_X) (s : Nat) (a b c : Int32) (u : List Nat) : Nat ⊕ bm_P :=
  if bm_nn X = 0 then .inl 0
  else if s = 0 then (match bm_ix a 3, bm_ix b (bm_nn X) with
    | some h, some n => (match bm_ix c 100 with
      | some k => .inr (0, h, n, k, [])
      | none => .inl 1)
    | _, _ => .inl 0)
  else if s = 1 then (match bm_ix a 3 with
    | some h => .inr (1, h, 0, 0, [])
    | none => .inl 0)
  else if s = 2 then (match bm_ix a 2 with
    | some v => .inr (2, v, 0, 0, [])
    | none => .inl 1)
  else (match bm_ix a (bm_nn X) with
    | none => .inl 0
    | some n => (match bm_ix b 4, bm_ix c 2 with
      | some k, some m => if s = 3 ∧ u = [] then .inl 1 else .inr (s, n, k, m, if s = 3 then u else [])
      | _, _ => .inl 1))
def br_ref (X : bm_X) (N : bm_N) (s : Nat) (a b c : Int32) (u : List Nat) : Nat ⊕ bm_P := match br_res X s a b c u with
  | .inl e => .inl e
  | .inr p => if bm_so N p then .inl 2 else .inr p
def br_code : Nat ⊕ bm_P → Int32
  | .inl e => nI e
  | .inr _ => -1
theorem bm_x3 {a : Int32} : ((¬ (a < 0)) ∧ (¬ (3 ≤ a))) ↔ bm_ix a 3 ≠ none := bm_x_iff (n := 3) (by decide)
theorem bm_le_iff {a : Int32} {n k : Nat} (hk : n = k + 1) (hn : n < 2 ^ 31) : ((¬ (a < 0)) ∧ (a ≤ nI k)) ↔ bm_ix a n ≠ none := by
  have h1 : (0 : Int32).toInt = 0 := rfl
  rw [fa_lt, fa_le, nI_toInt (by omega), h1]
  unfold bm_ix
  split
  · rename_i c; exact ⟨fun _ q => (by cases q), fun _ => (by omega)⟩
  · rename_i c; exact ⟨fun q => absurd (by omega) c, fun q => absurd rfl q⟩
theorem bm_c99 {a : Int32} : ((¬ (a < 0)) ∧ (a ≤ 99)) ↔ bm_ix a 100 ≠ none := bm_le_iff (k := 99) rfl (by decide)
theorem bm_c1 {a : Int32} : ((¬ (a < 0)) ∧ (a ≤ 1)) ↔ bm_ix a 2 ≠ none := bm_le_iff (k := 1) rfl (by decide)
/-- three ways, the middle one good -/
theorem br_mid {c1 c2 A B : Prop} {i : Prop} (hi : ((¬ c1) ∧ c2) ↔ i) (hB : i → B) (hA : ¬ i → A) : (c1 → A) ∧ (¬ c1 → ((c2 → B) ∧ (¬ c2 → A))) :=
  ⟨fun z => hA (fun q => (hi.mpr q).1 z), fun z => ⟨fun y => hB (hi.mp ⟨z, y⟩), fun y => hA (fun q => y (hi.mpr q).2)⟩⟩
def bx_sf (s : Nat) (a b c : Int32) (u : List Nat) (sp : Nat) (w : bw_W) : Prop := gw_i w sp 0 = nI s ∧ gw_i w sp 1 = a ∧ (s ≠ 1 → s ≠ 2 → gw_i w sp 2 = b ∧ gw_i w sp 3 = c) ∧ (s = 3 → gw_l w sp 4 = bx_w u)
def bx_pf (p : bm_P) (sp : Nat) (w : bw_W) : Prop := bx_sf p.1 (nI p.2.1) (nI p.2.2.1) (nI p.2.2.2.1) p.2.2.2.2 sp w
theorem bx_sf.fr {s : Nat} {a b c : Int32} {u : List Nat} {sp : Nat} {w w' : bw_W} {L : List Nat} (h : bx_sf s a b c u sp w) (hf : bw_fr L w w') (hn : sp ∉ L) : bx_sf s a b c u sp w' := by
  unfold bx_sf
  rw [hf.i hn, hf.i hn, hf.i hn, hf.i hn, hf.l hn]; exact h
theorem br_res_0 {X : bm_X} {s : Nat} {a b c : Int32} {u : List Nat} (h : bm_nn X = 0) : br_res X s a b c u = .inl 0 := by unfold br_res; rw [if_pos h]
theorem br_res_inl {X : bm_X} {s : Nat} {a b c : Int32} {u : List Nat} {e : Nat} (h : br_res X s a b c u = .inl e) : e ≤ 1 := by
  unfold br_res at h
  repeat' (first | (cases h; omega) | contradiction | split at h)
theorem br_res_inr {X : bm_X} {s : Nat} {a b c : Int32} {u : List Nat} {p : bm_P} (hs : s ≤ 4) (hu : bm_ok u) (h : br_res X s a b c u = .inr p) : bm_rdy X p ∧ p.1 = s ∧ a = nI p.2.1 ∧ (s ≠ 1 → s ≠ 2 → b = nI p.2.2.1 ∧ c = nI p.2.2.2.1) ∧ (s = 3 → p.2.2.2.2 = u ∧ u ≠ []) := by
  unfold br_res at h
  split at h
  · cases h
  rename_i hn
  split at h
  · rename_i e
    subst e
    cases e0 : bm_ix a 3 with
    | none => simp only [e0] at h; cases h
    | some i =>
      cases e1 : bm_ix b (bm_nn X) with
      | none => simp only [e0, e1] at h; cases h
      | some n =>
        cases e2 : bm_ix c 100 with
        | none => simp only [e0, e1, e2] at h; cases h
        | some k =>
          simp only [e0, e1, e2] at h
          cases h
          obtain ⟨g0, rfl⟩ := bm_ix_some e0
          obtain ⟨g1, rfl⟩ := bm_ix_some e1
          obtain ⟨g2, rfl⟩ := bm_ix_some e2
          exact ⟨⟨hn, Nat.zero_le _, fun _ => ⟨g0, g1, (by show k ≤ 99; omega)⟩, fun z => (by cases z), fun z => (by cases z), fun z => (by rcases z with z | z <;> cases z), bm_ok_nil⟩, rfl, rfl, fun _ _ => ⟨rfl, rfl⟩, fun z => (by cases z)⟩
  rename_i n0
  split at h
  · rename_i e
    subst e
    cases e0 : bm_ix a 3 with
    | none => simp only [e0] at h; cases h
    | some i =>
      simp only [e0] at h
      cases h
      obtain ⟨g0, rfl⟩ := bm_ix_some e0
      exact ⟨⟨hn, (by show 1 ≤ 4; omega), fun z => (by cases z), fun _ => g0, fun z => (by cases z), fun z => (by rcases z with z | z <;> cases z), bm_ok_nil⟩, rfl, rfl, fun z => absurd rfl z, fun z => (by cases z)⟩
  rename_i n1
  split at h
  · rename_i e
    subst e
    cases e0 : bm_ix a 2 with
    | none => simp only [e0] at h; cases h
    | some i =>
      simp only [e0] at h
      cases h
      obtain ⟨g0, rfl⟩ := bm_ix_some e0
      exact ⟨⟨hn, (by show 2 ≤ 4; omega), fun z => (by cases z), fun z => (by cases z), fun _ => g0, fun z => (by rcases z with z | z <;> cases z), bm_ok_nil⟩, rfl, rfl, fun _ z => absurd rfl z, fun z => (by cases z)⟩
  rename_i n2
  cases e0 : bm_ix a (bm_nn X) with
  | none => simp only [e0] at h; cases h
  | some n =>
    cases e1 : bm_ix b 4 with
    | none => simp only [e0, e1] at h; cases h
    | some k =>
      cases e2 : bm_ix c 2 with
      | none => simp only [e0, e1, e2] at h; cases h
      | some m =>
        simp only [e0, e1, e2] at h
        split at h
        · cases h
        rename_i hw
        cases h
        obtain ⟨g0, rfl⟩ := bm_ix_some e0
        obtain ⟨g1, rfl⟩ := bm_ix_some e1
        obtain ⟨g2, rfl⟩ := bm_ix_some e2
        refine ⟨⟨hn, hs, fun z => absurd z n0, fun z => absurd z n1, fun z => absurd z n2, fun _ => ⟨g0, g1, g2⟩, ?_⟩, rfl, rfl, fun _ _ => ⟨rfl, rfl⟩, fun z => ⟨if_pos z, fun y => hw ⟨z, y⟩⟩⟩
        show bm_ok (if s = 3 then u else [])
        split
        · exact hu
        · exact bm_ok_nil
theorem br_res_pf {X : bm_X} {s : Nat} {a b c : Int32} {u : List Nat} {p : bm_P} {sp : Nat} {w : bw_W} (hs : s ≤ 4) (hu : bm_ok u) (h : br_res X s a b c u = .inr p) (hf : bx_sf s a b c u sp w) : bx_pf p sp w := by
  obtain ⟨_, e, ea, ebc, eu⟩ := br_res_inr hs hu h
  unfold bx_pf
  rw [e, ← ea]
  refine ⟨hf.1, hf.2.1, fun h1 h2 => ?_, fun h3 => ?_⟩
  · rw [← (ebc h1 h2).1, ← (ebc h1 h2).2]; exact hf.2.2.1 h1 h2
  · rw [(eu h3).1]; exact hf.2.2.2 h3
def bm_cel (p : bm_P) : Nat := if p.1 = 0 ∨ p.1 = 1 then 48 + p.2.1 else if p.1 = 2 then 51 else bm_fc p
def bm_val (p : bm_P) : Int64 := if p.1 = 0 then lN (1 + 100 * p.2.2.1 + p.2.2.2.1) else if p.1 = 2 then lN p.2.1 else if p.1 = 3 then bx_w p.2.2.2.2 else 0
theorem bm_s5 {s : Nat} (h : s ≤ 4) : s = 0 ∨ s = 1 ∨ s = 2 ∨ s = 3 ∨ s = 4 := by omega
theorem bm_cel_lt {X : bm_X} {p : bm_P} (hx : bm_wfX X) (h : bm_rdy X p) : bm_cel p < 52 := by
  have h6 := hx.1
  obtain ⟨_, h4, h0, h1, h2, h3, _⟩ := h
  unfold bm_cel bm_fc
  split
  · rename_i e; rcases e with e | e
    · have := h0 e; omega
    · have := h1 e; omega
  · split
    · omega
    · have := h3 (by omega); omega
theorem cx_do {X : bm_X} {p : bm_P} (N : bm_N) (hx : bm_wfX X) (h : bm_rdy X p) {i : Nat} (hi : i < 52) : cx_N (bm_do N p) i = if i = bm_cel p then bm_val p else cx_N N i := by
  have h6 := hx.1
  obtain ⟨s, a, b, c, u⟩ := p
  obtain ⟨_, h4, h0, h1, h2, h3, hu⟩ := h
  rcases bm_s5 h4 with e | e | e | e | e
  · have e' : s = 0 := e
    subst e'
    have := (h0 rfl).1
    show cx_N (bm_frm N, bm_set (bm_hol N) a (some (b, c)), bm_str N) i = if i = 48 + a then lN (1 + 100 * b + c) else cx_N N i
    unfold cx_N bm_frm bm_hol bm_str
    dsimp only at this ⊢
    by_cases c1 : i < 48
    · rw [if_pos c1, if_neg (by omega), if_pos c1]
    · rw [if_neg c1, if_neg c1]
      by_cases c2 : i < 51
      · rw [if_pos c2, if_pos c2]
        by_cases c3 : i = 48 + a
        · rw [if_pos c3, show i - 48 = a by omega, bm_set_eq]; rfl
        · rw [if_neg c3, bm_set_ne (by omega)]
      · rw [if_neg c2, if_neg c2, if_neg (by omega)]
  · have e' : s = 1 := e
    subst e'
    have := h1 rfl
    show cx_N (bm_frm N, bm_set (bm_hol N) a none, bm_str N) i = if i = 48 + a then 0 else cx_N N i
    unfold cx_N bm_frm bm_hol bm_str
    dsimp only at this ⊢
    by_cases c1 : i < 48
    · rw [if_pos c1, if_neg (by omega), if_pos c1]
    · rw [if_neg c1, if_neg c1]
      by_cases c2 : i < 51
      · rw [if_pos c2, if_pos c2]
        by_cases c3 : i = 48 + a
        · rw [if_pos c3, show i - 48 = a by omega, bm_set_eq]; rfl
        · rw [if_neg c3, bm_set_ne (by omega)]
      · rw [if_neg c2, if_neg c2, if_neg (by omega)]
  · have e' : s = 2 := e
    subst e'
    have := h2 rfl
    show cx_N (bm_frm N, bm_hol N, decide (a ≠ 0)) i = if i = 51 then lN a else cx_N N i
    unfold cx_N bm_frm bm_hol bm_str
    dsimp only at this ⊢
    by_cases c1 : i < 48
    · rw [if_pos c1, if_neg (by omega), if_pos c1]
    · rw [if_neg c1, if_neg c1]
      by_cases c2 : i < 51
      · rw [if_pos c2, if_pos c2, if_neg (by omega)]
      · rw [if_neg c2, if_neg c2, if_pos (by omega)]
        rcases (by omega : a = 0 ∨ a = 1) with rfl | rfl <;> rfl
  · have e' : s = 3 := e
    subst e'
    have := h3 (Or.inl rfl)
    show cx_N (bm_set (bm_frm N) (8 * a + 2 * b + c) u, bm_hol N, bm_str N) i = if i = 8 * a + 2 * b + c then bx_w u else cx_N N i
    unfold cx_N bm_frm bm_hol bm_str
    dsimp only at this ⊢
    by_cases c1 : i < 48
    · rw [if_pos c1, if_pos c1]
      by_cases c3 : i = 8 * a + 2 * b + c
      · rw [if_pos c3, c3, bm_set_eq]
      · rw [if_neg c3, bm_set_ne c3]
    · rw [if_neg c1, if_neg c1, if_neg (show ¬ i = 8 * a + 2 * b + c by omega)]
  · have e' : s = 4 := e
    subst e'
    have := h3 (Or.inr rfl)
    show cx_N (bm_set (bm_frm N) (8 * a + 2 * b + c) [], bm_hol N, bm_str N) i = if i = 8 * a + 2 * b + c then 0 else cx_N N i
    unfold cx_N bm_frm bm_hol bm_str
    dsimp only at this ⊢
    by_cases c1 : i < 48
    · rw [if_pos c1, if_pos c1]
      by_cases c3 : i = 8 * a + 2 * b + c
      · rw [if_pos c3, c3, bm_set_eq]; rfl
      · rw [if_neg c3, bm_set_ne c3]
    · rw [if_neg c1, if_neg c1, if_neg (show ¬ i = 8 * a + 2 * b + c by omega)]
theorem bm_hv_inj {o : Option (Nat × Nat)} {n c : Nat} (ho : ∀ n' c', o = some (n', c') → n' < 6 ∧ c' ≤ 99) (hc : c ≤ 99) (hn : n < 6) : lN (bm_hv o) = lN (1 + 100 * n + c) ↔ o = some (n, c) := by
  cases o with
  | none =>
    rw [bm_leq (by decide) (by omega)]
    refine ⟨fun z => ?_, fun z => (by cases z)⟩
    simp only [bm_hv] at z; omega
  | some q =>
    obtain ⟨n', c'⟩ := q
    have := ho n' c' rfl
    rw [bm_leq (by simp only [bm_hv]; omega) (by omega)]
    simp only [bm_hv]
    refine ⟨fun z => ?_, fun z => by cases z; rfl⟩
    have e1 : n' = n := by omega
    have e2 : c' = c := by omega
    rw [e1, e2]
theorem cx_so {X : bm_X} {N : bm_N} {p : bm_P} (hx : bm_wfX X) (hW : bm_wfN X N) (h : bm_rdy X p) : cx_N N (bm_cel p) = bm_val p ↔ bm_so N p = true := by
  have h6 := hx.1
  obtain ⟨s, a, b, c, u⟩ := p
  obtain ⟨_, h4, h0, h1, h2, h3, hu⟩ := h
  have hh : ∀ k, k < 3 → ∀ n' c', bm_hol N k = some (n', c') → n' < 6 ∧ c' ≤ 99 := fun k hk n' c' e => by have := hW.2 k n' c' hk e; omega
  rcases bm_s5 h4 with e | e | e | e | e
  · have e' : s = 0 := e
    subst e'
    have t : a < 3 ∧ b < bm_nn X ∧ c ≤ 99 := h0 rfl
    show cx_N N (48 + a) = lN (1 + 100 * b + c) ↔ decide (bm_hol N a = some (b, c)) = true
    unfold cx_N
    rw [if_neg (by omega), if_pos (by omega), show 48 + a - 48 = a by omega, bm_hv_inj (hh a t.1) t.2.2 (by omega), decide_eq_true_iff]
  · have e' : s = 1 := e
    subst e'
    have t : a < 3 := h1 rfl
    show cx_N N (48 + a) = 0 ↔ decide (bm_hol N a = none) = true
    unfold cx_N
    rw [if_neg (by omega), if_pos (by omega), show 48 + a - 48 = a by omega, decide_eq_true_iff]
    cases e1 : bm_hol N a with
    | none => exact ⟨fun _ => rfl, fun _ => rfl⟩
    | some q =>
      obtain ⟨n', c'⟩ := q
      have := hh a t n' c' e1
      refine ⟨fun z => ?_, fun z => (by cases z)⟩
      have := (bm_l0 (by simp only [bm_hv]; omega)).mp z
      simp only [bm_hv] at this; omega
  · have e' : s = 2 := e
    subst e'
    have t : a < 2 := h2 rfl
    show cx_N N 51 = lN a ↔ decide (bm_b2 (bm_str N) = a) = true
    unfold cx_N
    have : bm_b2 (bm_str N) < 2 := by unfold bm_b2; split <;> omega
    rw [if_neg (by omega), if_neg (by omega), bm_leq (by omega) (by omega), decide_eq_true_iff]
  · have e' : s = 3 := e
    subst e'
    have t : a < bm_nn X ∧ b < 4 ∧ c < 2 := h3 (Or.inl rfl)
    show cx_N N (8 * a + 2 * b + c) = bx_w u ↔ decide (bm_frm N (8 * a + 2 * b + c) = u) = true
    unfold cx_N
    rw [if_pos (by omega), bx_w_eq (hW.1 _ (by omega)) hu, decide_eq_true_iff]
  · have e' : s = 4 := e
    subst e'
    have t : a < bm_nn X ∧ b < 4 ∧ c < 2 := h3 (Or.inr rfl)
    show cx_N N (8 * a + 2 * b + c) = 0 ↔ decide (bm_frm N (8 * a + 2 * b + c) = []) = true
    unfold cx_N
    rw [if_pos (by omega), bx_w0 (hW.1 _ (by omega)), decide_eq_true_iff]
section ACTS
variable {E : bw_E} {d : Nat} {w : bw_W} {X : bm_X} {N : bm_N} {sp : Nat}
theorem xs_cel {Q : Int32 → bw_W → Prop} {p : bm_P} (hsp : bw_sh sp = (0, 8, 5)) (h4 : p.1 ≤ 4) (hf : bx_pf p sp w) (hq : Q (nI (bm_cel p)) w) : bw_ri E (d + 1) mX8_cell [.ref sp] w Q := by
  obtain ⟨s, a, b, c, u⟩ := p
  refine wfX8_cell hsp ?_
  have f0 := hf.1
  have f1 := hf.2.1
  have f2 := hf.2.2.1
  dsimp only at f0 f1 f2 h4
  rw [f0, f1]
  rcases bm_s5 h4 with rfl | rfl | rfl | rfl | rfl
  · rw [nl_48, nI_add]; exact ⟨fun _ => hq, fun z => absurd z (by decide), fun z => absurd z (by decide), fun z => absurd z (by decide)⟩
  · rw [nl_48, nI_add]; exact ⟨fun z => absurd z (by decide), fun _ => hq, fun z => absurd z (by decide), fun z => absurd z (by decide)⟩
  · exact ⟨fun z => absurd z (by decide), fun z => absurd z (by decide), fun _ => hq, fun z => absurd z (by decide)⟩
  · rw [(f2 (by decide) (by decide)).1, (f2 (by decide) (by decide)).2, nl_8, nl_2, pk_mul, pk_mul, nI_add, nI_add]
    refine ⟨fun z => absurd z (by decide), fun z => absurd z (by decide), fun z => absurd z (by decide), fun _ => ?_⟩
    rw [show a * 8 + b * 2 + c = 8 * a + 2 * b + c by omega]; exact hq
  · rw [(f2 (by decide) (by decide)).1, (f2 (by decide) (by decide)).2, nl_8, nl_2, pk_mul, pk_mul, nI_add, nI_add]
    refine ⟨fun z => absurd z (by decide), fun z => absurd z (by decide), fun z => absurd z (by decide), fun _ => ?_⟩
    rw [show a * 8 + b * 2 + c = 8 * a + 2 * b + c by omega]; exact hq
theorem xs_val {Q : Int64 → bw_W → Prop} {p : bm_P} (hsp : bw_sh sp = (0, 8, 5)) (h4 : p.1 ≤ 4) (hb : p.1 = 0 → p.2.2.1 < 10 ∧ p.2.2.2.1 < 100) (h2 : p.1 = 2 → p.2.1 < 2) (hf : bx_pf p sp w) (hq : Q (bm_val p) w) : bw_rl E (d + 1) mX8_value [.ref sp] w Q := by
  obtain ⟨s, a, b, c, u⟩ := p
  refine wfX8_value hsp ?_
  have f0 := hf.1
  have f1 := hf.2.1
  have f2 := hf.2.2.1
  have f3 := hf.2.2.2
  dsimp only at f0 f1 f2 f3 h4 hb h2
  rw [f0, f1]
  rcases bm_s5 h4 with rfl | rfl | rfl | rfl | rfl
  · rw [(f2 (by decide) (by decide)).1, (f2 (by decide) (by decide)).2]
    refine ⟨fun _ => ?_, fun z => absurd z (by decide), fun z => absurd z (by decide), fun z => absurd z (by decide), fun z => absurd z (by decide)⟩
    have := hb rfl
    rw [nl_100, nl_1, pk_mul, nI_add, nI_add, nI_l (by omega), show 1 + b * 100 + c = 1 + 100 * b + c by omega]; exact hq
  · exact ⟨fun z => absurd z (by decide), fun _ => hq, fun z => absurd z (by decide), fun z => absurd z (by decide), fun z => absurd z (by decide)⟩
  · have := h2 rfl
    rw [nI_l (by omega)]
    exact ⟨fun z => absurd z (by decide), fun z => absurd z (by decide), fun _ => hq, fun z => absurd z (by decide), fun z => absurd z (by decide)⟩
  · rw [f3 rfl]
    exact ⟨fun z => absurd z (by decide), fun z => absurd z (by decide), fun z => absurd z (by decide), fun _ => hq, fun z => absurd z (by decide)⟩
  · exact ⟨fun z => absurd z (by decide), fun z => absurd z (by decide), fun z => absurd z (by decide), fun z => absurd z (by decide), fun _ => hq⟩
theorem xs_bounds {Q : Int32 → bw_W → Prop} {s : Nat} {a b c : Int32} {u : List Nat} (hX : bx_X X w) (hx : bm_wfX X) (hn : bm_nn X ≠ 0) (hsp : bw_sh sp = (0, 8, 5)) (hs : s ≤ 4) (hu : bm_ok u) (hf : bx_sf s a b c u sp w) (hq : Q (br_code (br_res X s a b c u)) w) : bw_ri E (d + 1) mX11_boundsRefusal [.ref 0, .ref sp] w Q := by
  have h6 := hx.1
  refine wfX11_boundsRefusal hsp ?_
  obtain ⟨f0, f1, f2, f3⟩ := hf
  unfold br_res at hq
  rw [if_neg hn] at hq
  rw [f0, f1, hX.1, bm_x3, bm_x_iff (a := a) (n := bm_nn X) (by omega)]
  rcases bm_s5 hs with rfl | rfl | rfl | rfl | rfl
  · rw [if_pos rfl] at hq
    rw [(f2 (by decide) (by decide)).1, (f2 (by decide) (by decide)).2, bm_x_iff (a := b) (n := bm_nn X) (by omega)]
    refine ⟨fun _ => ?_, fun z => absurd z (by decide), fun z => absurd z (by decide), fun z => absurd z (by decide)⟩
    cases e0 : bm_ix a 3 with
    | none => simp only [e0] at hq; exact br_nt (fun q => q rfl) hq
    | some i =>
      refine br_nf (by simp) ?_
      cases e1 : bm_ix b (bm_nn X) with
      | none => simp only [e0, e1] at hq; exact br_f (fun q => q rfl) hq
      | some n =>
        refine br_t (by simp) (br_mid bm_c99 (fun z => ?_) (fun z => ?_))
        · cases e2 : bm_ix c 100 with
          | none => exact absurd e2 z
          | some k => simp only [e0, e1, e2] at hq; exact hq
        · have e2 := Classical.not_not.mp z
          simp only [e0, e1, e2] at hq; exact hq
  · rw [if_neg (by decide), if_pos rfl] at hq
    refine ⟨fun z => absurd z (by decide), fun _ => ?_, fun z => absurd z (by decide), fun z => absurd z (by decide)⟩
    cases e0 : bm_ix a 3 with
    | none => simp only [e0] at hq; exact br_nt (fun q => q rfl) hq
    | some i => simp only [e0] at hq; exact br_nf (by simp) hq
  · rw [if_neg (by decide), if_neg (by decide), if_pos rfl] at hq
    refine ⟨fun z => absurd z (by decide), fun z => absurd z (by decide), fun _ => br_mid bm_c1 (fun z => ?_) (fun z => ?_), fun z => absurd z (by decide)⟩
    · cases e0 : bm_ix a 2 with
      | none => exact absurd e0 z
      | some i => simp only [e0] at hq; exact hq
    · have e0 := Classical.not_not.mp z
      simp only [e0] at hq; exact hq
  · rw [if_neg (by decide), if_neg (by decide), if_neg (by decide)] at hq
    rw [(f2 (by decide) (by decide)).1, (f2 (by decide) (by decide)).2, f3 rfl, bx_w0 hu, bm_sl_iff]
    refine ⟨fun z => absurd z (by decide), fun z => absurd z (by decide), fun z => absurd z (by decide), fun _ => ?_⟩
    cases e0 : bm_ix a (bm_nn X) with
    | none => simp only [e0] at hq; exact br_f (fun q => q rfl) hq
    | some n =>
      refine br_t (by simp) (br_nf rfl ?_)
      cases e1 : bm_ix b 4 with
      | none => simp only [e0, e1] at hq; exact ⟨fun _ => br_nt (fun q => q.1 rfl) hq, fun _ => br_nt (fun q => q.1 rfl) hq⟩
      | some k =>
        cases e2 : bm_ix c 2 with
        | none => simp only [e0, e1, e2] at hq; exact ⟨fun _ => br_nt (fun q => q.2 rfl) hq, fun _ => br_nt (fun q => q.2 rfl) hq⟩
        | some m =>
          simp only [e0, e1, e2] at hq
          refine ⟨fun z => br_nf (by simp) ?_, fun z => br_nf (by simp) ?_⟩
          · rw [if_neg (fun q => z q.2)] at hq; exact hq
          · rw [if_pos ⟨trivial, z⟩] at hq; exact hq
  · rw [if_neg (by decide), if_neg (by decide), if_neg (by decide)] at hq
    rw [(f2 (by decide) (by decide)).1, (f2 (by decide) (by decide)).2, bm_sl_iff]
    refine ⟨fun z => absurd z (by decide), fun z => absurd z (by decide), fun z => absurd z (by decide), fun _ => ?_⟩
    cases e0 : bm_ix a (bm_nn X) with
    | none => simp only [e0] at hq; exact br_f (fun q => q rfl) hq
    | some n =>
      refine br_t (by simp) (br_nt (by decide) ?_)
      cases e1 : bm_ix b 4 with
      | none => simp only [e0, e1] at hq; exact br_nt (fun q => q.1 rfl) hq
      | some k =>
        cases e2 : bm_ix c 2 with
        | none => simp only [e0, e1, e2] at hq; exact br_nt (fun q => q.2 rfl) hq
        | some m =>
          simp only [e0, e1, e2] at hq
          rw [if_neg (fun q => absurd q.1 (by decide))] at hq
          exact br_nf (by simp) hq
theorem bm_rdy_vb {p : bm_P} (hx : bm_wfX X) (h : bm_rdy X p) : (p.1 = 0 → p.2.2.1 < 10 ∧ p.2.2.2.1 < 100) ∧ (p.1 = 2 → p.2.1 < 2) := by
  have h6 := hx.1
  exact ⟨fun z => by have := h.2.2.1 z; omega, fun z => h.2.2.2.2.1 z⟩
theorem xs_ref {Q : Int32 → bw_W → Prop} {s : Nat} {a b c : Int32} {u : List Nat} (hX : bx_X X w) (hH : bx_H X w) (hN : bx_N N w) (hW : bm_wfN X N) (hx : bm_wfX X) (hsp : bw_sh sp = (0, 8, 5)) (hs : s ≤ 4) (hu : bm_ok u) (hf : bx_sf s a b c u sp w) (hq : Q (br_code (br_ref X N s a b c u)) w) : bw_ri E (d + 2) mX11_refusalOf [.ref 0, .ref sp] w Q := by
  refine wfX11_refusalOf hsp ?_
  rw [bx_H0 hH]
  unfold br_ref at hq
  refine ⟨fun hn => ⟨fun v w3 => br_code (br_res X s a b c u) = v ∧ w = w3, xs_bounds (d := d) hX hx hn hsp hs hu hf ⟨rfl, rfl⟩, ?_⟩, fun z => ?_⟩
  · rintro _ _ ⟨rfl, rfl⟩
    cases e : br_res X s a b c u with
    | inl e0 =>
      rw [e] at hq
      have := br_res_inl e
      exact br_f (nI_ne_m1 (by omega)) hq
    | inr p =>
      rw [e] at hq
      obtain ⟨hr, hp1, _⟩ := br_res_inr hs hu e
      have hpf := br_res_pf hs hu e hf
      have hvb := bm_rdy_vb hx hr
      have hlt := bm_cel_lt hx hr
      refine br_t rfl ⟨fun v w6 => nI (bm_cel p) = v ∧ w = w6, xs_cel (d := d) hsp hr.2.1 hpf ⟨rfl, rfl⟩, ?_⟩
      rintro _ _ ⟨rfl, rfl⟩
      refine ⟨bm_in hlt (by decide), fun v w9 => bm_val p = v ∧ w = w9, xs_val (d := d) hsp hr.2.1 hvb.1 hvb.2 hpf ⟨rfl, rfl⟩, ?_⟩
      rintro _ _ ⟨rfl, rfl⟩
      rw [nI_clamp (by omega), bx_N_iff.mp hN _ hlt, cx_so hx hW hr]
      have hq' : Q (br_code (if bm_so N p = true then .inl 2 else .inr p)) w := hq
      refine ⟨fun z => ?_, fun z => ?_⟩
      · rw [if_neg z] at hq'; exact hq'
      · rw [if_pos z] at hq'; exact hq'
  · rw [br_res_0 z] at hq; exact hq
end ACTS
