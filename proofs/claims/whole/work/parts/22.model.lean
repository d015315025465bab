/-! THE MODEL: lexicon and what acts change, as numbers, letters and rows; telling -/
/-- nouns, messages, names, kinds, bound words (articles 0..23, pronouns 24..47), items of a message, the items (8 a message): sort 0 word 1 # 2 @ 3 % 4 $ 5 = 6 !, hole, case or second hole, word -/
abbrev bm_X : Type := Nat × Nat × (Nat → List Nat) × (Nat → Nat) × (Nat → List Nat) × (Nat → Nat) × (Nat → Nat × Nat × Nat × List Nat)
/-- forms (8 a noun), holes, strict -/
abbrev bm_N : Type := (Nat → List Nat) × (Nat → Option (Nat × Nat)) × Bool
def bm_nn (X : bm_X) : Nat := X.1
def bm_nm (X : bm_X) : Nat := X.2.1
def bm_nam (X : bm_X) : Nat → List Nat := X.2.2.1
def bm_knd (X : bm_X) : Nat → Nat := X.2.2.2.1
def bm_wds (X : bm_X) : Nat → List Nat := X.2.2.2.2.1
def bm_cnt (X : bm_X) : Nat → Nat := X.2.2.2.2.2.1
def bm_it (X : bm_X) : Nat → Nat × Nat × Nat × List Nat := X.2.2.2.2.2.2
def bm_frm (N : bm_N) : Nat → List Nat := N.1
def bm_hol (N : bm_N) : Nat → Option (Nat × Nat) := N.2.1
def bm_str (N : bm_N) : Bool := N.2.2
/-- an item as it can be -/
def bm_itok (q : Nat × Nat × Nat × List Nat) : Prop := q.1 ≤ 6 ∧ (q.1 = 0 → bm_ok q.2.2.2 ∧ q.2.2.2 ≠ []) ∧ (q.1 ≠ 0 → q.2.1 < 3) ∧ ((q.1 = 1 ∨ q.1 = 2 ∨ q.1 = 3) → q.2.2.1 < 4) ∧ ((q.1 = 5 ∨ q.1 = 6) → q.2.2.1 < 3 ∧ q.2.2.1 ≠ q.2.1)
def bm_wfX (X : bm_X) : Prop := bm_nn X ≤ 6 ∧ bm_nm X ≤ 4 ∧ (∀ i, i < bm_nn X → bm_ok (bm_nam X i) ∧ bm_nam X i ≠ [] ∧ bm_knd X i < 3) ∧ (∀ j, j < 48 → bm_ok (bm_wds X j)) ∧ (∀ m, m < bm_nm X → 1 ≤ bm_cnt X m ∧ bm_cnt X m ≤ 8 ∧ ∀ i, i < bm_cnt X m → bm_itok (bm_it X (8 * m + i))) ∧ (bm_nn X = 0 → bm_nm X = 0)
def bm_wfN (X : bm_X) (N : bm_N) : Prop := (∀ i, i < 48 → bm_ok (bm_frm N i)) ∧ ∀ h n c, h < 3 → bm_hol N h = some (n, c) → n < bm_nn X ∧ c ≤ 99
/-- the number of what fills a hole -/
def bm_num (c : Nat) : Nat := if c = 1 then 0 else 1
def bm_def (N : bm_N) (n k u : Nat) : Nat := if bm_frm N (8 * n + 2 * k + u) ≠ [] then 0 else if bm_frm N (8 * n + u) ≠ [] then 1 else if bm_frm N (8 * n + 2 * k) ≠ [] then 2 else if bm_frm N (8 * n) ≠ [] then 3 else 4
def bm_form (X : bm_X) (N : bm_N) (n k u : Nat) : List Nat := match bm_def N n k u with
  | 0 => bm_frm N (8 * n + 2 * k + u)
  | 1 => bm_frm N (8 * n + u)
  | 2 => bm_frm N (8 * n + 2 * k)
  | 3 => bm_frm N (8 * n)
  | _ => bm_nam X n
/-- article (p 0), pronoun (p 1) -/
def bm_wd (X : bm_X) (p k u kd : Nat) : List Nat := if bm_wds X (24 * p + (2 * k + u) * 3 + kd) ≠ [] then bm_wds X (24 * p + (2 * k + u) * 3 + kd) else bm_wds X (24 * p + (2 * k + u) * 3)
/-- why an item can't be told: the hole, the reason -/
def bm_bad (X : bm_X) (N : bm_N) (q : Nat × Nat × Nat × List Nat) : Option (Nat × Nat) :=
  if q.1 = 0 then none else match bm_hol N q.2.1 with
  | none => some (q.2.1, 0)
  | some (n, c) =>
    if q.1 = 5 ∨ q.1 = 6 then match bm_hol N q.2.2.1 with
      | none => some (q.2.2.1, 0)
      | some (n2, c2) => if q.1 = 5 then (if bm_num c = bm_num c2 then none else some (q.2.2.1, 2)) else (if bm_knd X n = bm_knd X n2 then none else some (q.2.2.1, 3))
    else if q.1 = 4 ∨ bm_str N = false then none
    else if q.1 ≠ 1 ∧ bm_wds X (24 * (if q.1 = 3 then 1 else 0) + (2 * q.2.2.1 + bm_num c) * 3 + bm_knd X n) = [] then some (q.2.1, 4)
    else if q.1 ≠ 3 ∧ bm_def N n q.2.2.1 (bm_num c) ≠ 0 then some (q.2.1, 1) else none
/-- the first item of a message from the i-th on, among n, that can't be told -/
def bm_why (X : bm_X) (N : bm_N) (m : Nat) : Nat → Nat → Option (Nat × Nat × Nat)
  | 0, _ => none
  | n + 1, i => match bm_bad X N (bm_it X (8 * m + i)) with
    | some (h, y) => some (i, h, y)
    | none => bm_why X N m n (i + 1)
def bm_whyM (X : bm_X) (N : bm_N) (m : Nat) : Option (Nat × Nat × Nat) := bm_why X N m (bm_cnt X m) 0
/-- messages below n that can be told, as bits -/
def bm_bits (X : bm_X) (N : bm_N) : Nat → Nat
  | 0 => 0
  | n + 1 => bm_bits X N n + if bm_whyM X N n = none then 2 ^ n else 0
/-- how many -/
def bm_many (X : bm_X) (N : bm_N) : Nat → Nat
  | 0 => 0
  | n + 1 => bm_many X N n + if bm_whyM X N n = none then 1 else 0
def bm_by (u : List Nat) : List Nat := u.map (fun x => 96 + x)
def bm_dig (c : Nat) : List Nat := if c ≥ 10 then [48 + c / 10, 48 + c % 10] else [48 + c % 10]
/-- what is told behind what was: with a blank between -/
def bm_app (l t : List Nat) : List Nat := if t = [] then l else if l = [] then t else l ++ 32 :: t
def bm_say (X : bm_X) (N : bm_N) (q : Nat × Nat × Nat × List Nat) (l : List Nat) : List Nat :=
  if q.1 = 0 then bm_app l (bm_by q.2.2.2) else match bm_hol N q.2.1 with
  | none => l
  | some (n, c) =>
    if q.1 = 1 then bm_app l (bm_by (bm_form X N n q.2.2.1 (bm_num c)))
    else if q.1 = 2 then bm_app (bm_app l (bm_by (bm_wd X 0 q.2.2.1 (bm_num c) (bm_knd X n)))) (bm_by (bm_form X N n q.2.2.1 (bm_num c)))
    else if q.1 = 3 then bm_app l (bm_by (bm_wd X 1 q.2.2.1 (bm_num c) (bm_knd X n)))
    else if q.1 = 4 then bm_app l (bm_dig c)
    else l
def bm_line (X : bm_X) (N : bm_N) (m : Nat) : Nat → Nat → List Nat → List Nat
  | 0, _, l => l
  | n + 1, i, l => bm_line X N m n (i + 1) (bm_say X N (bm_it X (8 * m + i)) l)
def bm_lineM (X : bm_X) (N : bm_N) (m : Nat) : List Nat := bm_line X N m (bm_cnt X m) 0 []
/-! the class's cells, the reference's cells -/
def bm_sg : Nat → Nat
  | 0 => 119
  | 1 => 35
  | 2 => 64
  | 3 => 37
  | 4 => 36
  | 5 => 61
  | _ => 33
def bx_it (q : Nat × Nat × Nat × List Nat) (k : Nat) (w : bw_W) : Prop := gw_i w 26 k = nI (bm_sg q.1) ∧ (q.1 = 0 → gw_l w 29 k = bx_w q.2.2.2) ∧ (q.1 ≠ 0 → gw_i w 27 k = nI q.2.1) ∧ (q.1 ≠ 0 → q.1 ≠ 4 → gw_i w 28 k = nI q.2.2.1)
def bx_X (X : bm_X) (w : bw_W) : Prop := gw_i w 18 0 = nI (bm_nn X) ∧ gw_i w 18 6 = nI (bm_nm X) ∧ (∀ i, i < bm_nn X → gw_l w 19 i = bx_w (bm_nam X i) ∧ gw_i w 20 i = nI (bm_knd X i)) ∧ (∀ j, j < 24 → gw_l w 22 j = bx_w (bm_wds X j) ∧ gw_l w 23 j = bx_w (bm_wds X (24 + j))) ∧ (∀ m, m < bm_nm X → gw_i w 25 m = nI (bm_cnt X m) ∧ ∀ i, i < bm_cnt X m → bx_it (bm_it X (8 * m + i)) (8 * m + i) w)
def bm_hv : Option (Nat × Nat) → Nat
  | none => 0
  | some (n, c) => 1 + 100 * n + c
def bm_b2 (b : Bool) : Nat := if b then 1 else 0
def bx_N (N : bm_N) (w : bw_W) : Prop := (∀ i, i < 48 → gw_l w 32 i = bx_w (bm_frm N i)) ∧ (∀ h, h < 3 → gw_l w 32 (48 + h) = lN (bm_hv (bm_hol N h))) ∧ gw_l w 32 51 = lN (bm_b2 (bm_str N))
def by_it (q : Nat × Nat × Nat × List Nat) (k : Nat) (w : bw_W) : Prop := gw_i w 69 (3 * k) = nI q.1 ∧ (q.1 = 0 → gw_l w 70 k = by_w q.2.2.2) ∧ (q.1 ≠ 0 → gw_i w 69 (3 * k + 1) = nI q.2.1) ∧ (q.1 ≠ 0 → q.1 ≠ 4 → gw_i w 69 (3 * k + 2) = nI q.2.2.1)
def by_X (X : bm_X) (w : bw_W) : Prop := gw_i w 50 34 = nI (bm_nn X) ∧ gw_i w 50 35 = nI (bm_nm X) ∧ (∀ i, i < bm_nn X → gw_l w 65 i = by_w (bm_nam X i) ∧ gw_i w 66 i = nI (bm_knd X i)) ∧ (∀ j, j < 48 → gw_l w 67 j = by_w (bm_wds X j)) ∧ (∀ m, m < bm_nm X → gw_i w 68 m = nI (bm_cnt X m) ∧ ∀ i, i < bm_cnt X m → by_it (bm_it X (8 * m + i)) (8 * m + i) w)
def by_N (N : bm_N) (w : bw_W) : Prop := (∀ i, i < 48 → gw_l w 63 (7 + i) = by_w (bm_frm N i)) ∧ (∀ h, h < 3 → gw_l w 63 (1 + 2 * h) = (match bm_hol N h with | none => -1 | some (n, _) => lN n) ∧ gw_l w 63 (2 + 2 * h) = (match bm_hol N h with | none => 0 | some (_, c) => lN c)) ∧ gw_l w 63 0 = lN (bm_b2 (bm_str N))
/-- only these cells have changed -/
def bw_fr (S : List Nat) (w w' : bw_W) : Prop := ∀ c, c ∉ S → w'.1 c = w.1 c ∧ w'.2 c = w.2 c
theorem bw_fr.rf (S : List Nat) (w : bw_W) : bw_fr S w w := fun _ _ => ⟨rfl, rfl⟩
theorem bw_fr.i {S : List Nat} {w w' : bw_W} (h : bw_fr S w w') {c : Nat} (hc : c ∉ S) (k : Nat) : gw_i w' c k = gw_i w c k := by unfold gw_i; rw [(h c hc).1]
theorem bw_fr.l {S : List Nat} {w w' : bw_W} (h : bw_fr S w w') {c : Nat} (hc : c ∉ S) (k : Nat) : gw_l w' c k = gw_l w c k := by unfold gw_l; rw [(h c hc).2]
theorem bw_fr.tr {S : List Nat} {w w' w2 : bw_W} (h : bw_fr S w w') (h2 : bw_fr S w' w2) : bw_fr S w w2 := fun c hc => ⟨(h2 c hc).1.trans (h c hc).1, (h2 c hc).2.trans (h c hc).2⟩
theorem bw_fr.up {S S2 : List Nat} {w w' : bw_W} (h : bw_fr S w w') (hs : ∀ c, c ∈ S → c ∈ S2) : bw_fr S2 w w' := fun c hc => h c (fun q => hc (hs c q))
theorem bw_fr.si {S : List Nat} {w w' : bw_W} (h : bw_fr S w w') {c k : Nat} {v : Int32} (hc : c ∈ S) : bw_fr S w (sw_i w' c k v) := by
  intro c' h'
  have e : c' ≠ c := fun q => h' (q ▸ hc)
  unfold sw_i cw_i
  exact ⟨by simp only [if_neg e]; exact (h c' h').1, (h c' h').2⟩
theorem bw_fr.sl {S : List Nat} {w w' : bw_W} (h : bw_fr S w w') {c k : Nat} {v : Int64} (hc : c ∈ S) : bw_fr S w (sw_l w' c k v) := by
  intro c' h'
  have e : c' ≠ c := fun q => h' (q ▸ hc)
  unfold sw_l cw_l
  exact ⟨(h c' h').1, by simp only [if_neg e]; exact (h c' h').2⟩
theorem bx_X.fr {X : bm_X} {w w' : bw_W} {S : List Nat} (h : bx_X X w) (hf : bw_fr S w w') (hs : ∀ c, c ∈ S → c < 18 ∨ 29 < c) : bx_X X w' := by
  have hn : ∀ c, 18 ≤ c → c ≤ 29 → c ∉ S := fun c h1 h2 q => by have := hs c q; omega
  obtain ⟨h1, h2, h3, h4, h5⟩ := h
  refine ⟨by rw [hf.i (hn 18 (by omega) (by omega))]; exact h1, by rw [hf.i (hn 18 (by omega) (by omega))]; exact h2, fun i hi => ?_, fun j hj => ?_, fun m hm => ⟨?_, fun i hi => ?_⟩⟩
  · rw [hf.l (hn 19 (by omega) (by omega)), hf.i (hn 20 (by omega) (by omega))]; exact h3 i hi
  · rw [hf.l (hn 22 (by omega) (by omega)), hf.l (hn 23 (by omega) (by omega))]; exact h4 j hj
  · rw [hf.i (hn 25 (by omega) (by omega))]; exact (h5 m hm).1
  · unfold bx_it
    rw [hf.i (hn 26 (by omega) (by omega)), hf.l (hn 29 (by omega) (by omega)), hf.i (hn 27 (by omega) (by omega)), hf.i (hn 28 (by omega) (by omega))]
    exact (h5 m hm).2 i hi
theorem bx_N.fr {N : bm_N} {w w' : bw_W} {S : List Nat} (h : bx_N N w) (hf : bw_fr S w w') (hs : 32 ∉ S) : bx_N N w' := by
  obtain ⟨h1, h2, h3⟩ := h
  exact ⟨fun i hi => by rw [hf.l hs]; exact h1 i hi, fun i hi => by rw [hf.l hs]; exact h2 i hi, by rw [hf.l hs]; exact h3⟩
theorem nl_0 : (0 : Int32) = nI 0 := rfl
theorem nl_1 : (1 : Int32) = nI 1 := rfl
theorem nl_2 : (2 : Int32) = nI 2 := rfl
theorem nl_3 : (3 : Int32) = nI 3 := rfl
theorem nl_4 : (4 : Int32) = nI 4 := rfl
theorem nl_5 : (5 : Int32) = nI 5 := rfl
theorem nl_6 : (6 : Int32) = nI 6 := rfl
theorem nl_7 : (7 : Int32) = nI 7 := rfl
theorem nl_8 : (8 : Int32) = nI 8 := rfl
theorem nl_24 : (24 : Int32) = nI 24 := rfl
theorem nl_48 : (48 : Int32) = nI 48 := rfl
theorem nl_100 : (100 : Int32) = nI 100 := rfl
theorem bm_b20 {b : Bool} : lN (bm_b2 b) = 0 ↔ b = false := by cases b <;> decide
theorem bm_num_lt (c : Nat) : bm_num c < 2 := by unfold bm_num; split <;> omega
