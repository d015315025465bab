/-! only these cells, and of cell 50 only these fields, have changed -/
def by_fr (S F : List Nat) (w w' : bw_W) : Prop := (∀ c, c ∉ S → c ≠ 50 → w'.1 c = w.1 c ∧ w'.2 c = w.2 c) ∧ ∀ k, k ∉ F → w'.1 50 k = w.1 50 k ∧ w'.2 50 k = w.2 50 k
theorem by_fr.rf (S F : List Nat) (w : bw_W) : by_fr S F w w := ⟨fun _ _ _ => ⟨rfl, rfl⟩, fun _ _ => ⟨rfl, rfl⟩⟩
theorem by_fr.i {S F : List Nat} {w w' : bw_W} (h : by_fr S F w w') {c : Nat} (hc : c ∉ S) (h5 : c ≠ 50) (k : Nat) : gw_i w' c k = gw_i w c k := by unfold gw_i; rw [(h.1 c hc h5).1]
theorem by_fr.l {S F : List Nat} {w w' : bw_W} (h : by_fr S F w w') {c : Nat} (hc : c ∉ S) (h5 : c ≠ 50) (k : Nat) : gw_l w' c k = gw_l w c k := by unfold gw_l; rw [(h.1 c hc h5).2]
theorem by_fr.i5 {S F : List Nat} {w w' : bw_W} (h : by_fr S F w w') {k : Nat} (hk : k ∉ F) : gw_i w' 50 k = gw_i w 50 k := (h.2 k hk).1
theorem by_fr.l5 {S F : List Nat} {w w' : bw_W} (h : by_fr S F w w') {k : Nat} (hk : k ∉ F) : gw_l w' 50 k = gw_l w 50 k := (h.2 k hk).2
theorem by_fr.tr {S F : List Nat} {w w' w2 : bw_W} (h : by_fr S F w w') (h2 : by_fr S F w' w2) : by_fr S F w w2 := ⟨fun c hc h5 => ⟨(h2.1 c hc h5).1.trans (h.1 c hc h5).1, (h2.1 c hc h5).2.trans (h.1 c hc h5).2⟩, fun k hk => ⟨(h2.2 k hk).1.trans (h.2 k hk).1, (h2.2 k hk).2.trans (h.2 k hk).2⟩⟩
theorem by_fr.up {S F S2 F2 : List Nat} {w w' : bw_W} (h : by_fr S F w w') (hs : ∀ c, c ∈ S → c ∈ S2) (hf : ∀ c, c ∈ F → c ∈ F2) : by_fr S2 F2 w w' := ⟨fun c hc h5 => h.1 c (fun q => hc (hs c q)) h5, fun k hk => h.2 k (fun q => hk (hf k q))⟩
theorem by_fr.si {S F : List Nat} {w w' : bw_W} (h : by_fr S F w w') {c k : Nat} {v : Int32} (hc : c ∈ S) (h5 : c ≠ 50) : by_fr S F w (sw_i w' c k v) := by
  refine ⟨fun c' h' h5' => ?_, fun j hj => ?_⟩
  · have e : c' ≠ c := fun q => h' (q ▸ hc)
    unfold sw_i cw_i
    exact ⟨by simp only [if_neg e]; exact (h.1 c' h' h5').1, (h.1 c' h' h5').2⟩
  · unfold sw_i cw_i
    exact ⟨by simp only [if_neg h5.symm]; exact (h.2 j hj).1, (h.2 j hj).2⟩
theorem by_fr.sl {S F : List Nat} {w w' : bw_W} (h : by_fr S F w w') {c k : Nat} {v : Int64} (hc : c ∈ S) (h5 : c ≠ 50) : by_fr S F w (sw_l w' c k v) := by
  refine ⟨fun c' h' h5' => ?_, fun j hj => ?_⟩
  · have e : c' ≠ c := fun q => h' (q ▸ hc)
    unfold sw_l cw_l
    exact ⟨(h.1 c' h' h5').1, by simp only [if_neg e]; exact (h.1 c' h' h5').2⟩
  · unfold sw_l cw_l
    exact ⟨(h.2 j hj).1, by simp only [if_neg h5.symm]; exact (h.2 j hj).2⟩
theorem by_fr.s5 {S F : List Nat} {w w' : bw_W} (h : by_fr S F w w') {k : Nat} {v : Int32} (hk : k ∈ F) : by_fr S F w (sw_i w' 50 k v) := by
  refine ⟨fun c' h' h5' => ?_, fun j hj => ?_⟩
  · unfold sw_i cw_i
    exact ⟨by simp only [if_neg h5']; exact (h.1 c' h' h5').1, (h.1 c' h' h5').2⟩
  · have e : j ≠ k := fun q => hj (q ▸ hk)
    unfold sw_i cw_i
    exact ⟨by simp only [if_true, if_neg e]; exact (h.2 j hj).1, (h.2 j hj).2⟩
theorem by_fr.s5l {S F : List Nat} {w w' : bw_W} (h : by_fr S F w w') {k : Nat} {v : Int64} (hk : k ∈ F) : by_fr S F w (sw_l w' 50 k v) := by
  refine ⟨fun c' h' h5' => ?_, fun j hj => ?_⟩
  · unfold sw_l cw_l
    exact ⟨(h.1 c' h' h5').1, by simp only [if_neg h5']; exact (h.1 c' h' h5').2⟩
  · have e : j ≠ k := fun q => hj (q ▸ hk)
    unfold sw_l cw_l
    exact ⟨(h.2 j hj).1, by simp only [if_true, if_neg e]; exact (h.2 j hj).2⟩
theorem by_X.fr {X : bm_X} {w w' : bw_W} {S F : List Nat} (h : by_X X w) (hf : by_fr S F w w') (hs : ∀ c, c ∈ S → c < 65 ∨ 70 < c) (h34 : 34 ∉ F) (h35 : 35 ∉ F) : by_X X w' := by
  have hn : ∀ c, 65 ≤ c → c ≤ 70 → c ∉ S := fun c h1 h2 q => by have := hs c q; omega
  obtain ⟨h1, h2, h3, h4, h5⟩ := h
  refine ⟨by rw [hf.i5 h34]; exact h1, by rw [hf.i5 h35]; exact h2, fun i hi => ?_, fun j hj => ?_, fun m hm => ⟨?_, fun i hi => ?_⟩⟩
  · rw [hf.l (hn 65 (by omega) (by omega)) (by decide), hf.i (hn 66 (by omega) (by omega)) (by decide)]; exact h3 i hi
  · rw [hf.l (hn 67 (by omega) (by omega)) (by decide)]; exact h4 j hj
  · rw [hf.i (hn 68 (by omega) (by omega)) (by decide)]; exact (h5 m hm).1
  · unfold by_it
    rw [hf.i (hn 69 (by omega) (by omega)) (by decide), hf.l (hn 70 (by omega) (by omega)) (by decide), hf.i (hn 69 (by omega) (by omega)) (by decide), hf.i (hn 69 (by omega) (by omega)) (by decide)]
    exact (h5 m hm).2 i hi
theorem by_N.fr {N : bm_N} {w w' : bw_W} {S F : List Nat} (h : by_N N w) (hf : by_fr S F w w') (hs : 63 ∉ S) : by_N N w' := by
  obtain ⟨h1, h2, h3⟩ := h
  exact ⟨fun i hi => by rw [hf.l hs (by decide)]; exact h1 i hi, fun i hi => by rw [hf.l hs (by decide), hf.l hs (by decide)]; exact h2 i hi, by rw [hf.l hs (by decide)]; exact h3⟩
section MTELL
variable {E : bw_E} {d : Nat} {w : bw_W} {X : bm_X} {N : bm_N}
theorem yv_in {h : Nat} (hh : h < 3) : vp_in (1 + (2 * nI h)) 236 := by
  rw [nl_1, nl_2, pk_mul, nI_add]
  exact bm_in (by omega) (by decide)
theorem yv_in2 {h : Nat} (hh : h < 3) : vp_in ((1 + (2 * nI h)) + 1) 236 := by
  rw [nl_1, nl_2, pk_mul, nI_add, nI_add]
  exact bm_in (by omega) (by decide)
theorem yv_cell (hN : by_N N w) {h : Nat} (hh : h < 3) : vX12_nounIn w (nI h) = (match bm_hol N h with | none => -1 | some (n, _) => nI n) := by
  unfold vX12_nounIn
  rw [nl_1, nl_2, pk_mul, nI_add, nI_clamp (by omega), (hN.2.1 h hh).1]
  cases bm_hol N h with
  | none => rfl
  | some p => exact lN_i p.1
theorem yv_none (hN : by_N N w) {h : Nat} (hh : h < 3) (e : bm_hol N h = none) : vX12_nounIn w (nI h) = -1 := by rw [yv_cell hN hh, e]
theorem yv_noun (hN : by_N N w) {h n c : Nat} (hh : h < 3) (e : bm_hol N h = some (n, c)) : vX12_nounIn w (nI h) = nI n := by rw [yv_cell hN hh, e]
theorem nI_ne_m1 {n : Nat} (h : n < 2 ^ 31) : ¬ nI n = -1 := by
  intro q
  have := (fa_eq _ _).mp q
  rw [nI_toInt h] at this
  have h1 : (-1 : Int32).toInt = -1 := rfl
  omega
theorem yv_count (hN : by_N N w) {h n c : Nat} (hh : h < 3) (e : bm_hol N h = some (n, c)) : vX12_countIn w (nI h) = nI c := by
  unfold vX12_countIn
  rw [nl_1, nl_2, pk_mul, nI_add, nI_add, nI_clamp (by omega), show 1 + 2 * h + 1 = 2 + 2 * h by omega, (hN.2.1 h hh).2, e]
  exact lN_i c
theorem yv_num (hN : by_N N w) (hW : bm_wfN X N) {h n c : Nat} (hh : h < 3) (e : bm_hol N h = some (n, c)) : vX12_numberIn w (nI h) = nI (bm_num c) := by
  have h1 := (hW.2 h n c hh e).2
  unfold vX12_numberIn bm_num
  rw [yv_count hN hh e]
  have e3 : nI c = 1 ↔ c = 1 := nI_eq (b := 1) (by omega) (by decide)
  by_cases hc : c = 1
  · rw [if_neg (fun q => q (e3.mpr hc)), if_pos hc]; rfl
  · rw [if_pos (fun q => hc (e3.mp q)), if_neg hc]; rfl
theorem yv_told (hN : by_N N w) {n k u : Nat} (hn : n < 6) (hk : k < 4) (hu : u < 2) : vX12_told w (nI n) (nI k) (nI u) = by_w (bm_frm N (8 * n + 2 * k + u)) := by
  unfold vX12_told
  rw [nl_7, nl_8, nl_2, pk_mul, nI_add, pk_mul, nI_add, nI_add, nI_clamp (by omega), show 7 + 8 * n + (2 * k + u) = 7 + (8 * n + 2 * k + u) by omega]
  exact hN.1 _ (by omega)
theorem yv_tin {n k u : Nat} (hn : n < 6) (hk : k < 4) (hu : u < 2) : vp_in ((7 + (8 * nI n)) + ((2 * nI k) + nI u)) 236 := by
  rw [nl_7, nl_8, nl_2, pk_mul, nI_add, pk_mul, nI_add, nI_add]
  exact bm_in (by omega) (by decide)
theorem ys_def {Q : Int32 → bw_W → Prop} (hN : by_N N w) (hW : bm_wfN X N) {n k u : Nat} (hn : n < 6) (hk : k < 4) (hu : u < 2) (hq : Q (nI (bm_def N n k u)) w) : bw_ri E (d + 2) mX12_defaultOf [.ref 50, .int (nI n), .int (nI k), .int (nI u)] w Q := by
  have f : ∀ k u, k < 4 → u < 2 → (vX12_told w (nI n) (nI k) (nI u) = 0 ↔ bm_frm N (8 * n + 2 * k + u) = []) := fun k u hk hu => by rw [yv_told hN hn hk hu, by_w0 (hW.1 _ (by omega))]
  refine wfX12_defaultOf ?_
  rw [show (0 : Int32) = nI 0 from rfl, f k u hk hu, f 0 u (by omega) hu, f k 0 hk (by omega), f 0 0 (by omega) (by omega)]
  simp only [Nat.mul_zero, Nat.add_zero]
  unfold bm_def at hq
  refine ⟨yv_tin hn hk hu, fun c1 => ⟨yv_tin (k := 0) hn (by omega) hu, fun c2 => ⟨yv_tin (u := 0) hn hk (by omega), fun c3 => ⟨yv_tin (k := 0) (u := 0) hn (by omega) (by omega), fun c4 => ?_, fun c4 => ?_⟩, fun c3 => ?_⟩, fun c2 => ?_⟩, fun c1 => ?_⟩
  · rw [if_neg (fun q => q c1), if_neg (fun q => q c2), if_neg (fun q => q c3), if_neg (fun q => q c4)] at hq; exact hq
  · rw [if_neg (fun q => q c1), if_neg (fun q => q c2), if_neg (fun q => q c3), if_pos c4] at hq; exact hq
  · rw [if_neg (fun q => q c1), if_neg (fun q => q c2), if_pos c3] at hq; exact hq
  · rw [if_neg (fun q => q c1), if_pos c2] at hq; exact hq
  · rw [if_pos c1] at hq; exact hq
theorem ys_form {Q : Int64 → bw_W → Prop} (hX : by_X X w) (hN : by_N N w) (hW : bm_wfN X N) (hx : bm_wfX X) {n k u : Nat} (hn : n < bm_nn X) (hk : k < 4) (hu : u < 2) (hq : Q (by_w (bm_form X N n k u)) w) : bw_rl E (d + 3) mX12_formOf [.ref 50, .int (nI n), .int (nI k), .int (nI u)] w Q := by
  have h6 := hx.1
  have hD := bm_def_le N n k u
  refine wfX12_formOf ⟨fun v w3 => nI (bm_def N n k u) = v ∧ w = w3, ys_def (d := d) hN hW (by omega) hk hu ⟨rfl, rfl⟩, ?_⟩
  rintro _ _ ⟨rfl, rfl⟩
  rw [show (0 : Int32) = nI 0 from rfl, yv_told hN (by omega) hk hu, yv_told hN (by omega) (show 0 < 4 by omega) hu, yv_told hN (by omega) hk (show 0 < 2 by omega), yv_told hN (by omega) (show 0 < 4 by omega) (show 0 < 2 by omega), nI_clamp (by omega)]
  unfold bm_form at hq
  refine ⟨fun c => ⟨yv_tin (by omega) hk hu, ?_⟩, fun c => ⟨yv_tin (k := 0) (by omega) (by omega) hu, ?_⟩, fun c => ⟨yv_tin (u := 0) (by omega) hk (by omega), ?_⟩, fun c => ⟨yv_tin (k := 0) (u := 0) (by omega) (by omega) (by omega), ?_⟩, fun c => ⟨bm_in (by omega) (by decide), ?_⟩⟩
  · rw [(nI_eq (b := 0) (by omega) (by decide)).mp c] at hq; exact hq
  · rw [(nI_eq (b := 1) (by omega) (by decide)).mp c] at hq; exact hq
  · rw [(nI_eq (b := 2) (by omega) (by decide)).mp c] at hq; exact hq
  · rw [(nI_eq (b := 3) (by omega) (by decide)).mp c] at hq; exact hq
  · rw [nI_toInt (by omega)] at c
    have e4 : bm_def N n k u = 4 := by omega
    rw [e4] at hq
    rw [(hX.2.2.1 n hn).1]; exact hq
theorem yv_at {p : Bool} {k u kd : Nat} : vX12_wordAt p (nI k) (nI u) (nI kd) = nI (24 * bm_b2 p + (2 * k + u) * 3 + kd) := by
  unfold vX12_wordAt bm_b2
  cases p
  · rw [if_pos rfl, nl_0, nl_3, nl_2, pk_mul, nI_add, pk_mul, nI_add, nI_add]
    congr 1
    simp only [Bool.false_eq_true, if_false]
    omega
  · rw [if_neg (by decide), nl_24, nl_3, nl_2, pk_mul, nI_add, pk_mul, nI_add, nI_add]
    congr 1
    simp only [if_true]
    omega
theorem yv_atin (hx : bm_wfX X) {p : Bool} {k u kd : Nat} (hk : k < 4) (hu : u < 2) (hkd : kd < 3) : vp_in (vX12_wordAt p (nI k) (nI u) (nI kd)) 48 := by
  rw [yv_at]
  have : bm_b2 p ≤ 1 := by unfold bm_b2; split <;> omega
  exact bm_in (by omega) (by decide)
theorem yv_wd (hX : by_X X w) {p : Bool} {k u kd : Nat} (hk : k < 4) (hu : u < 2) (hkd : kd < 3) : gw_l w 67 ((vX12_wordAt p (nI k) (nI u) (nI kd)).toNatClampNeg) = by_w (bm_wds X (24 * bm_b2 p + (2 * k + u) * 3 + kd)) := by
  have : bm_b2 p ≤ 1 := by unfold bm_b2; split <;> omega
  rw [yv_at, nI_clamp (by omega)]
  exact hX.2.2.2.1 _ (by omega)
theorem yv_wordOf (hX : by_X X w) (hx : bm_wfX X) {p : Bool} {k u kd : Nat} (hk : k < 4) (hu : u < 2) (hkd : kd < 3) : vX12_wordOf w p (nI k) (nI u) (nI kd) = by_w (bm_wd X (bm_b2 p) k u kd) := by
  have hp : bm_b2 p ≤ 1 := by unfold bm_b2; split <;> omega
  unfold vX12_wordOf
  rw [show (0 : Int32) = nI 0 from rfl, yv_wd hX hk hu hkd, yv_wd hX hk hu (show 0 < 3 by omega)]
  have ho := hx.2.2.2.1 (24 * bm_b2 p + (2 * k + u) * 3 + kd) (by omega)
  unfold bm_wd
  by_cases hz : bm_wds X (24 * bm_b2 p + (2 * k + u) * 3 + kd) = []
  · rw [if_pos ((by_w0 ho).mpr hz), if_neg (fun q => q hz)]; rfl
  · rw [if_neg (fun q => hz ((by_w0 ho).mp q)), if_pos hz]
def by_af (Q : Int32 → bw_W → Prop) (w : bw_W) : Option (Nat × Nat) → Prop
  | none => Q (-1) w
  | some (_, y) => Q (nI y) w
theorem ys_why {Q : Int32 → bw_W → Prop} (hX : by_X X w) (hN : by_N N w) (hW : bm_wfN X N) (hx : bm_wfX X) {q : Nat × Nat × Nat × List Nat} {a1 a2 : Int32} (ho : bm_itok q) (h1 : q.1 ≠ 0 → a1 = nI q.2.1) (h2 : q.1 ≠ 0 → q.1 ≠ 4 → a2 = nI q.2.2.1) (hq : by_af Q w (bm_bad X N q)) : bw_ri E (d + 3) mX12_whyItemNot [.ref 50, .int (nI q.1), .int a1, .int a2] w Q := by
  obtain ⟨s, h, b, u⟩ := q
  obtain ⟨o1, o2, o3, o4, o5⟩ := ho
  unfold bm_bad at hq
  dsimp only at *
  refine wfX12_whyItemNot ?_
  by_cases hs0 : s = 0
  · subst hs0
    rw [if_pos rfl] at hq
    exact br_nf rfl hq
  · rw [if_neg hs0] at hq
    have hh := o3 hs0
    rw [h1 hs0]
    refine br_nt (fun z => hs0 ((nI_eq (b := 0) (by omega) (by decide)).mp z)) ⟨yv_in hh, ?_⟩
    cases e : bm_hol N h with
    | none =>
      rw [e] at hq
      exact br_t (yv_none hN hh e) hq
    | some p =>
      obtain ⟨n, c⟩ := p
      have g1 := hW.2 h n c hh e
      have g2 := hx.1
      have g3 := (hx.2.2.1 n g1.1).2.2
      have g4 := bm_num_lt c
      rw [e] at hq
      dsimp only at hq
      rw [yv_noun hN hh e, yv_num hN hW hh e, nI_clamp (by omega), (hX.2.2.1 n g1.1).2]
      refine br_f (nI_ne_m1 (by omega)) ?_
      have i6 : vp_in (nI n) 6 := bm_in (by omega) (by decide)
      have hstr : gw_l w 63 0 = 0 ↔ bm_str N = false := by rw [hN.2.2, bm_b20]
      have DEF : b < 4 → (bm_def N n b (bm_num c) = 0 → Q (-1) w) → (¬ bm_def N n b (bm_num c) = 0 → Q 1 w) → (∃ Q4 : Int32 → bw_W → Prop, bw_ri E (d + 2) mX12_defaultOf [.ref 50, .int (nI n), .int (nI b), .int (nI (bm_num c))] w Q4 ∧ ∀ v5 w6, Q4 v5 w6 → ((v5 ≤ 0 → Q (-1) w6) ∧ (¬ (v5 ≤ 0) → Q 1 w6))) := by
        intro hb q1 q2
        have hD := bm_def_le N n b (bm_num c)
        refine ⟨fun v w3 => nI (bm_def N n b (bm_num c)) = v ∧ w = w3, ys_def (d := d) hN hW (by omega) hb g4 ⟨rfl, rfl⟩, ?_⟩
        rintro _ _ ⟨rfl, rfl⟩
        have e0 : nI (bm_def N n b (bm_num c)) ≤ 0 ↔ bm_def N n b (bm_num c) ≤ 0 := nI_leI (b := 0) (by omega) (by decide)
        exact ⟨fun z => q1 (by have := e0.mp z; omega), fun z => q2 (fun y => z (e0.mpr (by omega)))⟩
      have hs : s = 1 ∨ s = 2 ∨ s = 3 ∨ s = 4 ∨ s = 5 ∨ s = 6 := by omega
      rcases hs with rfl | rfl | rfl | rfl | rfl | rfl
      · have hb := o4 (by omega)
        rw [h2 (by decide) (by decide)]
        rw [if_neg (by omega), apply_ite (by_af Q w), apply_ite (by_af Q w), apply_ite (by_af Q w)] at hq
        refine br_t (by decide) (br_nt (by decide) (br_nt (by decide) ⟨fun z => ?_, fun z => br_nt (by decide) (br_t rfl (br_f (by decide) ⟨yv_in hh, yv_in2 hh, DEF hb (fun y => ?_) (fun y => ?_)⟩))⟩))
        · rw [if_pos (Or.inr (hstr.mp z))] at hq; exact hq
        · rw [if_neg (fun q => q.elim (by decide) (fun q => z (hstr.mpr q))), if_neg (fun q => q.1 rfl), if_neg (fun q => q.2 y)] at hq; exact hq
        · rw [if_neg (fun q => q.elim (by decide) (fun q => z (hstr.mpr q))), if_neg (fun q => q.1 rfl), if_pos ⟨by decide, y⟩] at hq; exact hq
      · have hb := o4 (by omega)
        have ok := hx.2.2.2.1 ((2 * b + bm_num c) * 3 + bm_knd X n) (by omega)
        rw [h2 (by decide) (by decide), yv_wd (p := false) hX hb g4 g3]
        simp only [show bm_b2 false = 0 from rfl, Nat.mul_zero, Nat.zero_add]
        rw [if_neg (by omega), apply_ite (by_af Q w), apply_ite (by_af Q w), apply_ite (by_af Q w)] at hq
        simp only [show ((2 : Nat) = 3) = False by decide, if_false, Nat.mul_zero, Nat.zero_add] at hq
        refine br_t (by decide) (br_nt (by decide) (br_nt (by decide) ⟨fun z => ?_, fun z => br_nt (by decide) (br_f (by decide) (br_nt (by decide) ⟨yv_in2 hh, yv_in hh, i6, yv_atin hx hb g4 g3, fun x => br_f (by decide) ⟨yv_in hh, yv_in2 hh, DEF hb (fun y => ?_) (fun y => ?_)⟩, fun x => ?_⟩))⟩))
        · rw [if_pos (Or.inr (hstr.mp z))] at hq; exact hq
        · rw [if_neg (fun q => q.elim (by decide) (fun q => z (hstr.mpr q))), if_neg (fun q => x ((by_w0 ok).mpr q.2)), if_neg (fun q => q.2 y)] at hq; exact hq
        · rw [if_neg (fun q => q.elim (by decide) (fun q => z (hstr.mpr q))), if_neg (fun q => x ((by_w0 ok).mpr q.2)), if_pos ⟨by decide, y⟩] at hq; exact hq
        · rw [if_neg (fun q => q.elim (by decide) (fun q => z (hstr.mpr q))), if_pos ⟨by decide, (by_w0 ok).mp (Classical.byContradiction x)⟩] at hq; exact hq
      · have hb := o4 (by omega)
        have ok := hx.2.2.2.1 (24 * 1 + (2 * b + bm_num c) * 3 + bm_knd X n) (by omega)
        rw [h2 (by decide) (by decide), yv_wd (p := true) hX hb g4 g3]
        simp only [show bm_b2 true = 1 from rfl]
        rw [if_neg (by omega), apply_ite (by_af Q w), apply_ite (by_af Q w), apply_ite (by_af Q w)] at hq
        simp only [if_true] at hq
        refine br_t (by decide) (br_nt (by decide) (br_nt (by decide) ⟨fun z => ?_, fun z => br_nt (by decide) (br_f (by decide) (br_nf rfl ⟨yv_in2 hh, yv_in hh, i6, yv_atin hx hb g4 g3, fun x => br_t rfl ?_, fun x => ?_⟩))⟩))
        · rw [if_pos (Or.inr (hstr.mp z))] at hq; exact hq
        · rw [if_neg (fun q => q.elim (by decide) (fun q => z (hstr.mpr q))), if_neg (fun q => x ((by_w0 ok).mpr q.2)), if_neg (fun q => q.1 rfl)] at hq; exact hq
        · rw [if_neg (fun q => q.elim (by decide) (fun q => z (hstr.mpr q))), if_pos ⟨by decide, (by_w0 ok).mp (Classical.byContradiction x)⟩] at hq; exact hq
      · rw [if_neg (by omega), if_pos (Or.inl rfl)] at hq
        exact br_t (by decide) (br_nt (by decide) (br_nt (by decide) ⟨fun _ => hq, fun _ => br_nf rfl hq⟩))
      · have hb := (o5 (Or.inl rfl)).1
        rw [h2 (by decide) (by decide)]
        rw [if_pos (Or.inl rfl)] at hq
        refine br_f (by decide) ⟨yv_in hb, ?_⟩
        cases e2 : bm_hol N b with
        | none => rw [e2] at hq; exact br_nf (yv_none hN hb e2) hq
        | some p2 =>
          obtain ⟨n2, c2⟩ := p2
          have k1 := hW.2 b n2 c2 hb e2
          rw [e2] at hq
          dsimp only at hq
          rw [if_pos rfl, apply_ite (by_af Q w)] at hq
          have hu2 := bm_num_lt c2
          rw [yv_noun hN hb e2, yv_num hN hW hb e2]
          refine br_nt (nI_ne_m1 (by omega)) (br_nf rfl ⟨yv_in2 hh, yv_in2 hb, fun z => ?_, fun z => ?_⟩)
          · rw [if_neg (fun q => z (by rw [q]))] at hq; exact hq
          · rw [if_pos ((nI_eq (by omega) (by omega)).mp z)] at hq; exact hq
      · have hb := (o5 (Or.inr rfl)).1
        rw [h2 (by decide) (by decide)]
        rw [if_pos (Or.inr rfl)] at hq
        refine br_f (by decide) ⟨yv_in hb, ?_⟩
        cases e2 : bm_hol N b with
        | none => rw [e2] at hq; exact br_nf (yv_none hN hb e2) hq
        | some p2 =>
          obtain ⟨n2, c2⟩ := p2
          have k1 := hW.2 b n2 c2 hb e2
          have k3 := (hx.2.2.1 n2 k1.1).2.2
          rw [e2] at hq
          dsimp only at hq
          rw [if_neg (by decide), apply_ite (by_af Q w)] at hq
          rw [yv_noun hN hb e2, nI_clamp (by omega), (hX.2.2.1 n2 k1.1).2]
          refine br_nt (nI_ne_m1 (by omega)) (br_nt (by decide) (br_nf rfl ⟨yv_in hh, i6, yv_in hb, bm_in (by omega) (by decide), fun z => ?_, fun z => ?_⟩))
          · rw [if_neg (fun q => z (by rw [q]))] at hq; exact hq
          · rw [if_pos ((nI_eq (by omega) (by omega)).mp z)] at hq; exact hq
end MTELL
