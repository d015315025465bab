/-! THE WHOLE STATE: log, what can be undone, image, scripts, what was refused -/
abbrev bm_A : Type := Nat × Nat × Nat
abbrev bm_P : Type := Nat × Nat × Nat × Nat × List Nat
def cx_N (N : bm_N) (i : Nat) : Int64 := if i < 48 then bx_w (bm_frm N i) else if i < 51 then lN (bm_hv (bm_hol N (i - 48))) else lN (bm_b2 (bm_str N))
def bm_hn : Option (Nat × Nat) → Int64
  | none => -1
  | some (n, _) => lN n
def bm_hc : Option (Nat × Nat) → Int64
  | none => 0
  | some (_, c) => lN c
def cy_N (N : bm_N) (i : Nat) : Int64 := if i = 0 then lN (bm_b2 (bm_str N)) else if i < 7 then (if i % 2 = 1 then bm_hn (bm_hol N ((i - 1) / 2)) else bm_hc (bm_hol N ((i - 1) / 2))) else by_w (bm_frm N (i - 7))
def bx_Nf (N : bm_N) (f : Nat → Int64) : Prop := ∀ i, i < 52 → f i = cx_N N i
def by_Nf (N : bm_N) (f : Nat → Int64) : Prop := ∀ i, i < 55 → f i = cy_N N i
theorem bx_N_iff {N : bm_N} {w : bw_W} : bx_N N w ↔ bx_Nf N (gw_l w 32) := by
  constructor
  · intro h i hi
    unfold cx_N
    by_cases c : i < 48
    · rw [if_pos c]; exact h.1 i c
    · rw [if_neg c]
      by_cases c2 : i < 51
      · rw [if_pos c2]
        have := h.2.1 (i - 48) (by omega)
        rw [show 48 + (i - 48) = i by omega] at this
        exact this
      · rw [if_neg c2]
        have e : i = 51 := by omega
        rw [e]; exact h.2.2
  · intro h
    refine ⟨fun i hi => ?_, fun k hk => ?_, ?_⟩
    · have := h i (by omega)
      unfold cx_N at this
      rw [if_pos hi] at this; exact this
    · have := h (48 + k) (by omega)
      unfold cx_N at this
      rw [if_neg (by omega), if_pos (by omega), show 48 + k - 48 = k by omega] at this; exact this
    · have := h 51 (by omega)
      unfold cx_N at this
      rw [if_neg (by omega), if_neg (by omega)] at this; exact this
theorem by_N_iff {N : bm_N} {w : bw_W} : by_N N w ↔ by_Nf N (gw_l w 63) := by
  have e1 : ∀ k v, (v = (match bm_hol N k with | none => -1 | some (n, _) => lN n)) ↔ v = bm_hn (bm_hol N k) := fun k v => by
    cases e : bm_hol N k with
    | none => exact Iff.rfl
    | some p => obtain ⟨n, c⟩ := p; exact Iff.rfl
  have e2 : ∀ k v, (v = (match bm_hol N k with | none => 0 | some (_, c) => lN c)) ↔ v = bm_hc (bm_hol N k) := fun k v => by
    cases e : bm_hol N k with
    | none => exact Iff.rfl
    | some p => obtain ⟨n, c⟩ := p; exact Iff.rfl
  unfold by_N by_Nf
  constructor
  · intro h i hi
    unfold cy_N
    by_cases c : i = 0
    · rw [if_pos c, c]; exact h.2.2
    · rw [if_neg c]
      by_cases c2 : i < 7
      · rw [if_pos c2]
        have this := h.2.1 ((i - 1) / 2) (by omega)
        have this := And.intro ((e1 _ _).mp this.1) ((e2 _ _).mp this.2)
        by_cases c3 : i % 2 = 1
        · rw [if_pos c3, ← this.1, show 1 + 2 * ((i - 1) / 2) = i by omega]
        · rw [if_neg c3, ← this.2, show 2 + 2 * ((i - 1) / 2) = i by omega]
      · rw [if_neg c2, ← h.1 (i - 7) (by omega), show 7 + (i - 7) = i by omega]
  · intro h
    refine ⟨fun i hi => ?_, fun k hk => ⟨?_, ?_⟩, ?_⟩
    · have := h (7 + i) (by omega)
      unfold cy_N at this
      rw [if_neg (by omega), if_neg (by omega), show 7 + i - 7 = i by omega] at this; exact this
    · have := h (1 + 2 * k) (by omega)
      unfold cy_N at this
      rw [if_neg (by omega), if_pos (by omega), if_pos (by omega), show (1 + 2 * k - 1) / 2 = k by omega] at this
      exact (e1 _ _).mpr this
    · have := h (2 + 2 * k) (by omega)
      unfold cy_N at this
      rw [if_neg (by omega), if_pos (by omega), if_neg (by omega), show (2 + 2 * k - 1) / 2 = k by omega] at this
      exact (e2 _ _).mpr this
    · have := h 0 (by omega)
      unfold cy_N at this
      rw [if_pos rfl] at this; exact this
def bm_a (G : List bm_A) (i : Nat) : bm_A := G.getD i (0, 0, 0)
def bm_u (U : List bm_N) (j : Nat) : bm_N := U.getD j (fun _ => [], fun _ => none, false)
def bm_s (C : List (List bm_P)) (n : Nat) : List bm_P := C.getD n []
def bm_p (L : List bm_P) (i : Nat) : bm_P := L.getD i (0, 0, 0, 0, [])
def bx_row (a : bm_A) : Nat := (a.1 * 10 + a.2.1) * 10 + a.2.2
def bm_wfA (a : bm_A) : Prop := a.1 ≤ 4 ∧ a.2.1 ≤ 9 ∧ a.2.2 ≤ 9
def bx_G (h r v : Nat) (G : List bm_A) (w : bw_W) : Prop := gw_i w h 1 = nI G.length ∧ ∀ i, i < v → i < G.length → gw_i w r ((G.length - 1 - i) % 100) = nI (bx_row (bm_a G i))
def bm_l6 (G : List bm_A) : Nat := min G.length 60
def by_Gf (G : List bm_A) (f : Nat → Int64) : Prop := f 55 = lN (bm_l6 G) ∧ ∀ i, i < bm_l6 G → f (56 + 3 * (bm_l6 G - 1 - i)) = lN (bm_a G i).1 ∧ f (57 + 3 * (bm_l6 G - 1 - i)) = lN (bm_a G i).2.1 ∧ f (58 + 3 * (bm_l6 G - 1 - i)) = lN (bm_a G i).2.2
def by_Sf (N : bm_N) (G : List bm_A) (f : Nat → Int64) : Prop := by_Nf N f ∧ by_Gf G f
def bx_U (N : bm_N) (G : List bm_A) (U : List bm_N) (w : bw_W) : Prop := gw_i w 37 4 = nI U.length ∧ ∀ j, j < U.length → ∃ c, c < 52 ∧ gw_i w 39 ((G.length - 1 - j) % 40) = nI c ∧ ∀ i, i < 52 → cx_N (bm_u (N :: U) (j + 1)) i = if i = c then gw_l w 40 ((G.length - 1 - j) % 40) else cx_N (bm_u (N :: U) j) i
def by_U (G : List bm_A) (U : List bm_N) (w : bw_W) : Prop := gw_i w 50 42 = nI U.length ∧ ∀ j, j < U.length → by_Sf (bm_u U j) (G.drop (j + 1)) (fun i => gw_l w 72 (236 * (U.length - 1 - j) + i))
def bx_I (I : Option (bm_N × List bm_A)) (w : bw_W) : Prop := gw_i w 0 14 = nI (bm_b2 I.isSome) ∧ ∀ p, I = some p → bx_Nf p.1 (gw_l w 42) ∧ bx_G 43 44 60 p.2 w
def by_I (I : Option (bm_N × List bm_A)) (w : bw_W) : Prop := gw_i w 50 51 = nI (bm_b2 I.isSome) ∧ ∀ p, I = some p → by_Sf p.1 p.2 (gw_l w 76)
def bm_stok (p : bm_P) : Prop := p.1 ≤ 4 ∧ (p.1 = 0 → p.2.1 < 3 ∧ p.2.2.1 ≤ 9 ∧ p.2.2.2.1 ≤ 99) ∧ (p.1 = 1 → p.2.1 < 3) ∧ (p.1 = 2 → p.2.1 < 2) ∧ ((p.1 = 3 ∨ p.1 = 4) → p.2.1 ≤ 9 ∧ p.2.2.1 < 4 ∧ p.2.2.2.1 < 2) ∧ bm_ok p.2.2.2.2 ∧ (p.1 ≠ 3 → p.2.2.2.2 = [])
def bx_st (p : bm_P) (sp : Nat) (w : bw_W) : Prop := gw_i w sp 0 = nI p.1 ∧ gw_i w sp 1 = nI p.2.1 ∧ gw_i w sp 2 = nI p.2.2.1 ∧ gw_i w sp 3 = nI p.2.2.2.1 ∧ gw_l w sp 4 = bx_w p.2.2.2.2
def bm_i3 (s v : Nat) : Int32 := if s = 1 ∨ s = 2 then -1000000 else nI v
def by_st (p : bm_P) (k : Nat) (w : bw_W) : Prop := gw_i w 60 (4 * k) = nI p.1 ∧ gw_i w 60 (4 * k + 1) = nI p.2.1 ∧ gw_i w 60 (4 * k + 2) = bm_i3 p.1 p.2.2.1 ∧ gw_i w 60 (4 * k + 3) = bm_i3 p.1 p.2.2.2.1 ∧ gw_l w 61 k = by_w p.2.2.2.2
def bx_K (C : List (List bm_P)) (w : bw_W) : Prop := gw_i w 0 7 = nI C.length ∧ ∀ n, n < C.length → gw_i w (78 + n) 0 = nI (bm_s C n).length ∧ ∀ i, i < (bm_s C n).length → bx_st (bm_p (bm_s C n) i) (88 + 12 * n + i) w
def by_K (C : List (List bm_P)) (w : bw_W) : Prop := gw_i w 50 25 = nI C.length ∧ ∀ n, n < C.length → gw_i w 62 n = nI (bm_s C n).length ∧ ∀ i, i < (bm_s C n).length → by_st (bm_p (bm_s C n) i) (12 * n + i) w
def bm_wfC (C : List (List bm_P)) : Prop := C.length ≤ 4 ∧ ∀ n, n < C.length → 1 ≤ (bm_s C n).length ∧ (bm_s C n).length ≤ 12 ∧ ∀ i, i < (bm_s C n).length → bm_stok (bm_p (bm_s C n) i)
def bx_R (R : Nat → Int32) (w : bw_W) : Prop := ∀ i, i < 3 → gw_i w 47 i = R i
def by_R (R : Nat → Int32) (w : bw_W) : Prop := ∀ i, i < 3 → gw_i w 64 i = R i
/-- tape; lexicon; what acts change; log, newest first; what was ahead of the acts, newest first; image; scripts; refused -/
abbrev bm_S : Type := List Nat × bm_X × bm_N × List bm_A × List bm_N × Option (bm_N × List bm_A) × List (List bm_P) × (Nat → Int32)
def st_t (S : bm_S) : List Nat := S.1
def st_X (S : bm_S) : bm_X := S.2.1
def st_N (S : bm_S) : bm_N := S.2.2.1
def st_G (S : bm_S) : List bm_A := S.2.2.2.1
def st_U (S : bm_S) : List bm_N := S.2.2.2.2.1
def st_I (S : bm_S) : Option (bm_N × List bm_A) := S.2.2.2.2.2.1
def st_C (S : bm_S) : List (List bm_P) := S.2.2.2.2.2.2.1
def st_R (S : bm_S) : Nat → Int32 := S.2.2.2.2.2.2.2
def bx_S (S : bm_S) (w : bw_W) : Prop := bx_T (st_t S) w ∧ bx_X (st_X S) w ∧ bx_H (st_X S) w ∧ bx_N (st_N S) w ∧ bx_G 37 38 (60 + (st_U S).length) (st_G S) w ∧ bx_U (st_N S) (st_G S) (st_U S) w ∧ bx_I (st_I S) w ∧ bx_K (st_C S) w ∧ bx_R (st_R S) w
def by_S (S : bm_S) (w : bw_W) : Prop := by_T (st_t S) w ∧ by_X (st_X S) w ∧ by_Sf (st_N S) (st_G S) (gw_l w 63) ∧ by_U (st_G S) (st_U S) w ∧ by_I (st_I S) w ∧ by_K (st_C S) w ∧ by_R (st_R S) w
def bm_wfn (X : bm_X) (N : bm_N) : Prop := bm_wfN X N ∧ bm_wfF X N
def bm_wfG (k : Nat) (G : List bm_A) : Prop := G.length ≤ k ∧ ∀ a ∈ G, bm_wfA a
def bm_wfS (k : Nat) (S : bm_S) : Prop := bm_wfT (st_t S) ∧ bm_wfX (st_X S) ∧ bm_wfn (st_X S) (st_N S) ∧ bm_wfG k (st_G S) ∧ ((st_U S).length ≤ 40 ∧ (st_U S).length ≤ (st_G S).length ∧ ∀ N ∈ st_U S, bm_wfn (st_X S) N) ∧ (∀ p, st_I S = some p → bm_nn (st_X S) ≠ 0 ∧ bm_wfn (st_X S) p.1 ∧ bm_wfG k p.2) ∧ bm_wfC (st_C S)
theorem bm_wfA_a {k : Nat} {G : List bm_A} (h : bm_wfG k G) {i : Nat} (hi : i < G.length) : bm_wfA (bm_a G i) := by
  unfold bm_a
  rw [List.getD_eq_getElem?_getD, List.getElem?_eq_getElem hi]
  exact h.2 _ (List.getElem_mem hi)
theorem bm_wfG.up {k k2 : Nat} {G : List bm_A} (h : bm_wfG k G) (hk : k ≤ k2) : bm_wfG k2 G := ⟨Nat.le_trans h.1 hk, h.2⟩
theorem bm_wfS.up {k k2 : Nat} {S : bm_S} (h : bm_wfS k S) (hk : k ≤ k2) : bm_wfS k2 S := by
  obtain ⟨h1, h2, h3, h4, h5, h6, h7⟩ := h
  exact ⟨h1, h2, h3, h4.up hk, h5, fun p hp => ⟨(h6 p hp).1, (h6 p hp).2.1, (h6 p hp).2.2.up hk⟩, h7⟩
theorem bm_l6_le (G : List bm_A) : bm_l6 G ≤ 60 ∧ bm_l6 G ≤ G.length := by unfold bm_l6; omega
/-! frames -/
theorem bx_st.fr {p : bm_P} {sp : Nat} {w w' : bw_W} {L : List Nat} (h : bx_st p sp w) (hf : bw_fr L w w') (hn : sp ∉ L) : bx_st p sp w' := by
  unfold bx_st
  rw [hf.i hn, hf.i hn, hf.i hn, hf.i hn, hf.l hn]; exact h
theorem bx_G.fr {h r v : Nat} {G : List bm_A} {w w' : bw_W} {L : List Nat} (g : bx_G h r v G w) (hf : bw_fr L w w') (h1 : h ∉ L) (h2 : r ∉ L) : bx_G h r v G w' := by
  unfold bx_G
  rw [hf.i h1]
  exact ⟨g.1, fun i a b => by rw [hf.i h2]; exact g.2 i a b⟩
theorem bx_U.fr {N : bm_N} {G : List bm_A} {U : List bm_N} {w w' : bw_W} {L : List Nat} (g : bx_U N G U w) (hf : bw_fr L w w') (h1 : 37 ∉ L) (h2 : 39 ∉ L) (h3 : 40 ∉ L) : bx_U N G U w' := by
  unfold bx_U
  rw [hf.i h1]
  refine ⟨g.1, fun j hj => ?_⟩
  rw [hf.i h2, hf.l h3]
  exact g.2 j hj
theorem bw_fr.fl {L : List Nat} {w w' : bw_W} (h : bw_fr L w w') {c : Nat} (hc : c ∉ L) : gw_l w' c = gw_l w c := funext fun k => h.l hc k
theorem bx_I.fr {I : Option (bm_N × List bm_A)} {w w' : bw_W} {L : List Nat} (g : bx_I I w) (hf : bw_fr L w w') (h1 : 0 ∉ L) (h2 : 42 ∉ L) (h3 : 43 ∉ L) (h4 : 44 ∉ L) : bx_I I w' := by
  unfold bx_I
  rw [hf.i h1, hf.fl h2]
  exact ⟨g.1, fun p hp => ⟨(g.2 p hp).1, (g.2 p hp).2.fr hf h3 h4⟩⟩
theorem bx_K.fr {C : List (List bm_P)} {w w' : bw_W} {L : List Nat} (hw : bm_wfC C) (g : bx_K C w) (hf : bw_fr L w w') (h1 : 0 ∉ L) (h2 : ∀ c, c ∈ L → c < 78 ∨ (78 + C.length ≤ c ∧ c < 88) ∨ 88 + 12 * C.length ≤ c) : bx_K C w' := by
  unfold bx_K
  rw [hf.i h1]
  refine ⟨g.1, fun n hn => ⟨?_, fun i hi => ?_⟩⟩
  · rw [hf.i (fun q => by have := h2 _ q; have := hw.1; omega)]; exact (g.2 n hn).1
  · have := (hw.2 n hn).2.1
    exact ((g.2 n hn).2 i hi).fr hf (fun q => by have := h2 _ q; have := hw.1; omega)
theorem bx_R.fr {R : Nat → Int32} {w w' : bw_W} {L : List Nat} (g : bx_R R w) (hf : bw_fr L w w') (h1 : 47 ∉ L) : bx_R R w' := fun i hi => by rw [hf.i h1]; exact g i hi
theorem bx_H.fr {X : bm_X} {w w' : bw_W} {L : List Nat} (g : bx_H X w) (hf : bw_fr L w w') (h1 : 0 ∉ L) : bx_H X w' := by unfold bx_H; rw [hf.i h1]; exact g
/-- cells of the class that hold nothing from call to call -/
def bx_sc (c : Nat) : Prop := c = 3 ∨ (5 ≤ c ∧ c ≤ 16) ∨ (33 ≤ c ∧ c ≤ 36) ∨ (48 ≤ c ∧ c ≤ 77)
theorem bx_S.fr {k : Nat} {S : bm_S} {w w' : bw_W} {L : List Nat} (hw : bm_wfS k S) (h : bx_S S w) (hf : bw_fr L w w') (hl : ∀ c, c ∈ L → bx_sc c) : bx_S S w' := by
  have hn : ∀ c, ¬ bx_sc c → c ∉ L := fun c h q => h (hl c q)
  unfold bx_sc at hn hl
  obtain ⟨h1, h2, h3, h4, h5, h6, h7, h8, h9⟩ := h
  refine ⟨h1.fr hf (hn _ (by omega)) (hn _ (by omega)), h2.fr hf (fun c q => by have := hl c q; omega), h3.fr hf (hn _ (by omega)), h4.fr hf (hn _ (by omega)), h5.fr hf (hn _ (by omega)) (hn _ (by omega)), h6.fr hf (hn _ (by omega)) (hn _ (by omega)) (hn _ (by omega)), h7.fr hf (hn _ (by omega)) (hn _ (by omega)) (hn _ (by omega)) (hn _ (by omega)), h8.fr hw.2.2.2.2.2.2 hf (hn _ (by omega)) (fun c q => by have := hl c q; omega), h9.fr hf (hn _ (by omega))⟩
theorem by_fr.fl {S F : List Nat} {w w' : bw_W} (h : by_fr S F w w') {c : Nat} (hc : c ∉ S) (h5 : c ≠ 50) : gw_l w' c = gw_l w c := funext fun k => h.l hc h5 k
theorem by_U.fr {G : List bm_A} {U : List bm_N} {w w' : bw_W} {S F : List Nat} (g : by_U G U w) (hf : by_fr S F w w') (h1 : 42 ∉ F) (h2 : 72 ∉ S) : by_U G U w' := by
  unfold by_U
  rw [hf.i5 h1, hf.fl h2 (by decide)]; exact g
theorem by_I.fr {I : Option (bm_N × List bm_A)} {w w' : bw_W} {S F : List Nat} (g : by_I I w) (hf : by_fr S F w w') (h1 : 51 ∉ F) (h2 : 76 ∉ S) : by_I I w' := by
  unfold by_I
  rw [hf.i5 h1, hf.fl h2 (by decide)]; exact g
theorem by_st.fr {p : bm_P} {k : Nat} {w w' : bw_W} {S F : List Nat} (h : by_st p k w) (hf : by_fr S F w w') (h1 : 60 ∉ S) (h2 : 61 ∉ S) : by_st p k w' := by
  unfold by_st
  rw [hf.i h1 (by decide), hf.i h1 (by decide), hf.i h1 (by decide), hf.i h1 (by decide), hf.l h2 (by decide)]; exact h
theorem by_K.fr {C : List (List bm_P)} {w w' : bw_W} {S F : List Nat} (g : by_K C w) (hf : by_fr S F w w') (h1 : 25 ∉ F) (h2 : 60 ∉ S) (h3 : 61 ∉ S) (h4 : 62 ∉ S) : by_K C w' := by
  unfold by_K
  rw [hf.i5 h1]
  exact ⟨g.1, fun n hn => ⟨by rw [hf.i h4 (by decide)]; exact (g.2 n hn).1, fun i hi => ((g.2 n hn).2 i hi).fr hf h2 h3⟩⟩
theorem by_R.fr {R : Nat → Int32} {w w' : bw_W} {S F : List Nat} (g : by_R R w) (hf : by_fr S F w w') (h1 : 64 ∉ S) : by_R R w' := fun i hi => by rw [hf.i h1 (by decide)]; exact g i hi
/-- cells and fields of the reference that hold nothing from call to call -/
def by_sc (c : Nat) : Prop := c < 50 ∨ (52 ≤ c ∧ c ≤ 59) ∨ c = 71 ∨ (73 ≤ c ∧ c ≤ 75) ∨ 77 ≤ c
def by_sf (k : Nat) : Prop := k ≠ 2 ∧ k ≠ 25 ∧ k ≠ 34 ∧ k ≠ 35 ∧ k ≠ 42 ∧ k ≠ 51
theorem by_S.fr {T : bm_S} {w w' : bw_W} {S F : List Nat} (h : by_S T w) (hf : by_fr S F w w') (hs : ∀ c, c ∈ S → by_sc c) (hk : ∀ c, c ∈ F → by_sf c) : by_S T w' := by
  have hn : ∀ c, ¬ by_sc c → c ∉ S := fun c h q => h (hs c q)
  have hm : ∀ c, ¬ by_sf c → c ∉ F := fun c h q => h (hk c q)
  unfold by_sc at hn hs
  unfold by_sf at hm
  obtain ⟨h1, h2, h3, h4, h5, h6, h7⟩ := h
  refine ⟨h1.fr hf (hn _ (by omega)) (hm _ (by omega)), h2.fr hf (fun c q => by have := hs c q; omega) (hm _ (by omega)) (hm _ (by omega)), by rw [hf.fl (hn _ (by omega)) (by decide)]; exact h3, h4.fr hf (hm _ (by omega)) (hn _ (by omega)), h5.fr hf (hm _ (by omega)) (hn _ (by omega)), h6.fr hf (hm _ (by omega)) (hn _ (by omega)) (hn _ (by omega)) (hn _ (by omega)), h7.fr hf (hn _ (by omega))⟩
theorem by_S.frx {T : bm_S} {w w' : bw_W} {L : List Nat} (h : by_S T w) (hf : bw_fr L w w') (hl : ∀ c, c ∈ L → c < 50 ∨ 76 < c) : by_S T w' := by
  have h50 : 50 ∉ L := fun q => by have := hl _ q; omega
  refine h.fr (S := L) (F := []) ⟨fun c hc _ => hf c hc, fun k _ => ?_⟩ (fun c q => by have := hl c q; unfold by_sc; omega) (fun c q => by cases q)
  rw [(hf 50 h50).1, (hf 50 h50).2]; exact ⟨rfl, rfl⟩
theorem bx_S.fry {k : Nat} {T : bm_S} {w w' : bw_W} {S F : List Nat} (hw : bm_wfS k T) (h : bx_S T w) (hf : by_fr S F w w') (hs : ∀ c, c ∈ S → 50 ≤ c ∧ c ≤ 76) : bx_S T w' := by
  refine h.fr (L := 50 :: S) hw (fun c hc => hf.1 c (fun q => hc (List.mem_cons_of_mem _ q)) (fun q => hc (q ▸ List.mem_cons_self))) (fun c q => ?_)
  unfold bx_sc
  rcases List.mem_cons.mp q with rfl | q
  · omega
  · have := hs c q; omega
/-! questions -/
def br_count (S : bm_S) (a : Int32) : Int32 := if a = 0 then nI (bm_nn (st_X S)) else if a = 1 then nI (st_C S).length else if a = 2 then nI (st_t S).length else if a = 3 then nI (bm_l6 (st_G S)) else if a = 4 then nI (st_U S).length else -1000000
def br_stat (S : bm_S) (a : Int32) : Int32 := match bm_ix a 3 with
  | none => -1
  | some i => st_R S i
def br_log (S : bm_S) (a b : Int32) : Int32 := match bm_ix a (bm_l6 (st_G S)), bm_ix b 3 with
  | some i, some v => nI (if v = 0 then (bm_a (st_G S) i).1 else if v = 1 then (bm_a (st_G S) i).2.1 else (bm_a (st_G S) i).2.2)
  | _, _ => -1000000
def br_step (S : bm_S) (a b c : Int32) : Int32 := match bm_ix a (st_C S).length with
  | none => -1000000
  | some n => match bm_ix b (bm_s (st_C S) n).length, bm_ix c 5 with
    | some i, some v => if v = 0 then nI (bm_p (bm_s (st_C S) n) i).1 else if v = 1 then nI (bm_p (bm_s (st_C S) n) i).2.1 else if v = 2 then bm_i3 (bm_p (bm_s (st_C S) n) i).1 (bm_p (bm_s (st_C S) n) i).2.2.1 else if v = 3 then bm_i3 (bm_p (bm_s (st_C S) n) i).1 (bm_p (bm_s (st_C S) n) i).2.2.2.1 else nI (bm_p (bm_s (st_C S) n) i).2.2.2.2.length
    | _, _ => -1000000
section STATE
variable {E : bw_E} {d : Nat} {w : bw_W} {S : bm_S} {K : Nat} {Q : Int32 → bw_W → Prop}
theorem xv_logged {G : List bm_A} {v : Nat} (h : bx_G 37 38 v G w) (hg : G.length < 2 ^ 30) : vX2_logged w = nI (bm_l6 G) := by
  unfold vX2_logged bm_l6
  rw [h.1, show (60 : Int32) = nI 60 from rfl]
  by_cases c : 60 < G.length
  · rw [if_pos (nI_lt c (by omega)), Nat.min_eq_right (by omega)]
  · rw [if_neg (nI_nlt (by omega) (by decide)), Nat.min_eq_left (by omega)]
theorem bm_out5 {a : Int32} (h : a.toInt < 0 ∨ 4 < a.toInt) : a ≠ 0 ∧ a ≠ 1 ∧ a ≠ 2 ∧ a ≠ 3 ∧ a ≠ 4 := by
  refine ⟨?_, ?_, ?_, ?_, ?_⟩ <;> (rintro rfl; revert h; decide)
theorem qx_count {a0 : Int32} (hw : bm_wfS K S) (hK : K < 2 ^ 30) (h : bx_S S w) (hq : Q (br_count S a0) w) : bw_ri E (d + 2) mX11_count [.ref 0, .int a0] w Q := by
  unfold br_count at hq
  obtain ⟨h1, h2, h3, h4, h5, h6, h7, h8, h9⟩ := h
  refine wfX11_count ⟨fun e => ?_, fun e => ?_, fun e => ?_, fun e => ?_, fun e => ?_, fun e => ?_⟩
  · rw [if_pos e] at hq; rw [h2.1]; exact hq
  · subst e; rw [if_neg (by decide), if_pos rfl] at hq; rw [h8.1]; exact hq
  · subst e; rw [if_neg (by decide), if_neg (by decide), if_pos rfl] at hq; rw [h1.1]; exact hq
  · subst e; rw [if_neg (by decide), if_neg (by decide), if_neg (by decide), if_pos rfl] at hq
    rw [xv_logged h5 (by have := hw.2.2.2.1.1; omega)]; exact hq
  · subst e; rw [if_neg (by decide), if_neg (by decide), if_neg (by decide), if_neg (by decide), if_pos rfl] at hq; rw [h6.1]; exact hq
  · obtain ⟨e0, e1, e2, e3, e4⟩ := bm_out5 e
    rw [if_neg e0, if_neg e1, if_neg e2, if_neg e3, if_neg e4] at hq; exact hq
theorem qm_count {a0 : Int32} (h : by_S S w) (hq : Q (br_count S a0) w) : bw_ri E (d + 0) mX12_count [.ref 50, .int a0] w Q := by
  unfold br_count at hq
  obtain ⟨h1, h2, h3, h4, h5, h6, h7⟩ := h
  refine wfX12_count ⟨fun e => ?_, fun e => ?_, fun e => ?_, fun e => ?_, fun e => ?_, fun e => ?_⟩
  · rw [if_pos e] at hq; rw [h2.1]; exact hq
  · subst e; rw [if_neg (by decide), if_pos rfl] at hq; rw [h6.1]; exact hq
  · subst e; rw [if_neg (by decide), if_neg (by decide), if_pos rfl] at hq; rw [h1.1]; exact hq
  · subst e; rw [if_neg (by decide), if_neg (by decide), if_neg (by decide), if_pos rfl] at hq
    rw [h3.2.1, lN_i]; exact hq
  · subst e; rw [if_neg (by decide), if_neg (by decide), if_neg (by decide), if_neg (by decide), if_pos rfl] at hq; rw [h4.1]; exact hq
  · obtain ⟨e0, e1, e2, e3, e4⟩ := bm_out5 e
    rw [if_neg e0, if_neg e1, if_neg e2, if_neg e3, if_neg e4] at hq; exact hq
theorem qx_stat {a0 : Int32} (h : bx_S S w) (hq : Q (br_stat S a0) w) : bw_ri E (d + 0) mX11_status [.ref 0, .int a0] w Q := by
  unfold br_stat at hq
  have h9 := h.2.2.2.2.2.2.2.2
  have hi := bm_x_iff (a := a0) (n := 3) (by decide)
  cases e : bm_ix a0 3 with
  | none =>
    rw [e] at hq
    rw [e] at hi
    refine wfX11_status ⟨fun _ => hq, fun c => ⟨fun _ => hq, fun c2 => absurd rfl (hi.mp ⟨c, c2⟩)⟩⟩
  | some i =>
    rw [e] at hq
    obtain ⟨g, rfl⟩ := bm_ix_some e
    have := hi.mpr (by rw [e]; simp)
    refine wfX11_status (br_f this.1 (br_f this.2 ⟨bm_in g (by decide), ?_⟩))
    rw [nI_clamp (by omega), h9 i g]; exact hq
theorem qm_stat {a0 : Int32} (h : by_S S w) (hq : Q (br_stat S a0) w) : bw_ri E (d + 1) mX12_status [.ref 50, .int a0] w Q := by
  unfold br_stat at hq
  have h9 := h.2.2.2.2.2.2
  refine wfX12_status ?_
  rw [nl_2, bm_k_iff (n := 3) rfl (by decide)]
  cases e : bm_ix a0 3 with
  | none => rw [e] at hq; exact br_nt (fun q => q rfl) hq
  | some i =>
    rw [e] at hq
    obtain ⟨g, rfl⟩ := bm_ix_some e
    refine br_nf (by simp) ⟨bm_in g (by decide), ?_⟩
    rw [nI_clamp (by omega), h9 i g]; exact hq
theorem bm_out3 {a : Int32} (h : a.toInt < 0 ∨ 2 < a.toInt) : bm_ix a 3 = none := by
  unfold bm_ix; rw [if_neg (by omega)]
theorem qx_log {a0 a1 : Int32} (hw : bm_wfS K S) (hK : K < 2 ^ 30) (h : bx_S S w) (hq : Q (br_log S a0 a1) w) : bw_ri E (d + 2) mX11_log [.ref 0, .int a0, .int a1] w Q := by
  unfold br_log at hq
  have h5 := h.2.2.2.2.1
  have hg := hw.2.2.2.1.1
  have h6 := bm_l6_le (st_G S)
  have hi := bm_x_iff (a := a0) (n := bm_l6 (st_G S)) (by omega)
  refine wfX11_log ?_
  rw [xv_logged h5 (by omega)]
  cases e : bm_ix a0 (bm_l6 (st_G S)) with
  | none =>
    rw [e] at hq hi
    refine ⟨fun _ => hq, fun c => ⟨fun c2 => absurd rfl (hi.mp ⟨c, ?_⟩), fun _ => hq⟩⟩
    rw [fa_le]; rw [fa_lt] at c2; omega
  | some i =>
    rw [e] at hq
    have h2 := hi.mpr (by rw [e]; simp)
    obtain ⟨g, rfl⟩ := bm_ix_some e
    have hrow : vX2_rowAt w (nI i) = nI (bx_row (bm_a (st_G S) i)) := by
      unfold vX2_rowAt
      rw [h5.1, nl_1, pk_sub (by omega), pk_sub (by omega), show (100 : Int32) = nI 100 from rfl, pk_rem (by omega) (by decide) (by decide), nI_clamp (by omega)]
      exact h5.2 i (by omega) (by omega)
    have hA := bm_wfA_a hw.2.2.2.1 (show i < (st_G S).length by omega)
    have hr : bx_row (bm_a (st_G S) i) < 1000 := by unfold bx_row; have := hA.1; have := hA.2.1; have := hA.2.2; omega
    refine br_f h2.1 (br_t (nI_lt g (by omega)) ⟨?_, ?_⟩)
    · rw [h5.1, nl_1, pk_sub (by omega), pk_sub (by omega), show (100 : Int32) = nI 100 from rfl, pk_rem (by omega) (by decide) (by decide)]
      exact bm_in (Nat.mod_lt _ (by decide)) (by decide)
    · rw [hrow, show (100 : Int32) = nI 100 from rfl, show (10 : Int32) = nI 10 from rfl, pk_div (by omega) (by decide) (by decide), pk_div (by omega) (by decide) (by decide), ]
      refine ⟨fun c => ?_, fun c => ?_, fun c => ?_, fun c => ?_⟩
      · subst c
        have q2 : Q (nI (bm_a (st_G S) i).1) w := hq
        rw [show bx_row (bm_a (st_G S) i) / 100 = (bm_a (st_G S) i).1 by unfold bx_row; have := hA.1; have := hA.2.1; have := hA.2.2; omega]; exact q2
      · subst c
        have q2 : Q (nI (bm_a (st_G S) i).2.1) w := hq
        rw [pk_rem (by omega) (by decide) (by decide), show bx_row (bm_a (st_G S) i) / 10 % 10 = (bm_a (st_G S) i).2.1 by unfold bx_row; have := hA.1; have := hA.2.1; have := hA.2.2; omega]; exact q2
      · subst c
        have q2 : Q (nI (bm_a (st_G S) i).2.2) w := hq
        rw [← pk_div (a := bx_row (bm_a (st_G S) i)) (d := 10) (by omega) (by decide) (by decide), pk_rem (by omega) (by decide) (by decide), show bx_row (bm_a (st_G S) i) % 10 = (bm_a (st_G S) i).2.2 by unfold bx_row; have := hA.1; have := hA.2.1; have := hA.2.2; omega]; exact q2
      · rw [bm_out3 c] at hq; exact hq
theorem qm_log {a0 a1 : Int32} (h : by_S S w) (hq : Q (br_log S a0 a1) w) : bw_ri E (d + 1) mX12_log [.ref 50, .int a0, .int a1] w Q := by
  unfold br_log at hq
  have h3 := h.2.2.1.2
  have h6 := bm_l6_le (st_G S)
  refine wfX12_log ?_
  rw [h3.1, lN_i, bm_m_iff (by omega), nl_2, bm_k_iff (n := 3) rfl (by decide)]
  cases e : bm_ix a0 (bm_l6 (st_G S)) with
  | none => rw [e] at hq; exact br_nt (fun q => q rfl) hq
  | some i =>
    rw [e] at hq
    obtain ⟨g, rfl⟩ := bm_ix_some e
    refine br_nf (by simp) ?_
    cases e1 : bm_ix a1 3 with
    | none => rw [e1] at hq; exact br_nt (fun q => q rfl) hq
    | some v =>
      rw [e1] at hq
      obtain ⟨g1, rfl⟩ := bm_ix_some e1
      have hq' : Q (nI (if v = 0 then (bm_a (st_G S) i).1 else if v = 1 then (bm_a (st_G S) i).2.1 else (bm_a (st_G S) i).2.2)) w := hq
      have hr := h3.2 i g
      rw [show (56 : Int32) = nI 56 from rfl, nl_3, nl_1, pk_sub (by omega), pk_sub (by omega), pk_mul, nI_add, nI_add, nI_clamp (by omega)]
      refine br_nf (by simp) ⟨bm_in (by omega) (by decide), ?_⟩
      rcases (by omega : v = 0 ∨ v = 1 ∨ v = 2) with rfl | rfl | rfl
      · rw [Nat.add_zero, hr.1, lN_i]; exact hq'
      · rw [show 56 + 3 * (bm_l6 (st_G S) - 1 - i) + 1 = 57 + 3 * (bm_l6 (st_G S) - 1 - i) by omega, hr.2.1, lN_i]; exact hq'
      · rw [show 56 + 3 * (bm_l6 (st_G S) - 1 - i) + 2 = 58 + 3 * (bm_l6 (st_G S) - 1 - i) by omega, hr.2.2, lN_i]; exact hq'
theorem bm_sc30 : ∀ n, n < 5 → bw_rf 30 n = 78 + n := by decide
theorem bm_sc78 : ∀ n, n < 5 → bw_sh (78 + n) = (0, 5, 2) ∧ bw_rf (78 + n) 1 = 83 + n ∧ bw_sh (83 + n) = (5, 12, 0) := by decide
theorem bm_sc83 : ∀ n, n < 5 → ∀ i, i < 12 → bw_rf (83 + n) i = 88 + 12 * n + i := by decide +kernel
theorem bm_sc88 : ∀ i, i < 60 → bw_sh (88 + i) = (0, 8, 5) := by decide +kernel
theorem bm_sc88' {n i : Nat} (hn : n < 5) (hi : i < 12) : bw_sh (88 + 12 * n + i) = (0, 8, 5) := by
  rw [show 88 + 12 * n + i = 88 + (12 * n + i) by omega]; exact bm_sc88 _ (by omega)
theorem bm_h3 {s : Nat} (hs : s ≤ 4) : ((nI s = 0) ∨ ((nI s = 3) ∨ (nI s = 4))) ↔ ¬ (s = 1 ∨ s = 2) := by
  have h : ∀ s, s < 5 → (((nI s = 0) ∨ ((nI s = 3) ∨ (nI s = 4))) ↔ ¬ (s = 1 ∨ s = 2)) := by decide
  exact h s (by omega)
theorem qx_step {a0 a1 a2 : Int32} (hw : bm_wfS K S) (h : bx_S S w) (hq : Q (br_step S a0 a1 a2) w) : bw_ri E (d + 2) mX11_step [.ref 0, .int a0, .int a1, .int a2] w Q := by
  unfold br_step at hq
  have hC := hw.2.2.2.2.2.2
  have h8 := h.2.2.2.2.2.2.2.1
  have hC1 := hC.1
  refine wfX11_step ?_
  rw [h8.1, bm_x_iff (by omega)]
  cases e : bm_ix a0 (st_C S).length with
  | none => rw [e] at hq; exact br_nt (fun q => q rfl) hq
  | some n =>
    rw [e] at hq
    obtain ⟨g, rfl⟩ := bm_ix_some e
    obtain ⟨k1, k2⟩ := h8.2 n g
    obtain ⟨c1, c2, c3⟩ := hC.2 n g
    have s7 := bm_sc78 n (by omega)
    refine br_nf (by simp) ?_
    rw [nI_clamp (by omega), bm_sc30 n (by omega), k1, s7.2.1]
    have hi := bm_x_iff (a := a1) (n := (bm_s (st_C S) n).length) (by omega)
    have hlt : ∀ z : a1 < nI (bm_s (st_C S) n).length, ¬ nI (bm_s (st_C S) n).length ≤ a1 := fun z => by rw [fa_le]; rw [fa_lt] at z; omega
    cases e1 : bm_ix a1 (bm_s (st_C S) n).length with
    | none =>
      simp only [e1] at hq
      rw [e1] at hi
      exact ⟨fun _ => hq, fun z => ⟨bm_in (by omega) (by decide), s7.1, fun y => absurd rfl (hi.mp ⟨z, hlt y⟩), fun _ => hq⟩⟩
    | some i =>
      have h2 := hi.mpr (by rw [e1]; simp)
      obtain ⟨g1, rfl⟩ := bm_ix_some e1
      have hS := bm_sc88' (n := n) (i := i) (by omega) (by omega)
      obtain ⟨t0, t1, t2, t3, t4⟩ := k2 i g1
      have o := c3 i g1
      refine br_f h2.1 ⟨bm_in (by omega) (by decide), s7.1, br_t (nI_lt g1 (by omega)) ⟨bm_in (by omega) (by decide), s7.2.2, bm_in (by omega) (by decide), ?_⟩⟩
      rw [nI_clamp (by omega), bm_sc83 n (by omega) i (by omega), t0, t1, t2, t3, t4, bm_h3 o.1]
      simp only [e1] at hq
      refine ⟨fun z => ⟨hS, ?_⟩, fun z => ⟨hS, ?_⟩, fun z => ⟨hS, ?_⟩, fun z => ⟨hS, ?_⟩, fun z => ⟨hS, ?_⟩, fun z => ?_⟩
      · subst z; exact hq
      · subst z; exact hq
      · subst z
        have hq' : Q (bm_i3 (bm_p (bm_s (st_C S) n) i).1 (bm_p (bm_s (st_C S) n) i).2.2.1) w := hq
        unfold bm_i3 at hq'
        refine ⟨fun y => ?_, fun y => ?_⟩
        · rw [if_pos (Classical.not_not.mp y)] at hq'; exact hq'
        · rw [if_neg y] at hq'; exact hq'
      · subst z
        have hq' : Q (bm_i3 (bm_p (bm_s (st_C S) n) i).1 (bm_p (bm_s (st_C S) n) i).2.2.2.1) w := hq
        unfold bm_i3 at hq'
        refine ⟨fun y => ?_, fun y => ?_⟩
        · rw [if_pos (Classical.not_not.mp y)] at hq'; exact hq'
        · rw [if_neg y] at hq'; exact hq'
      · subst z
        exact ⟨Q, bx_lettersOf (d := d) o.2.2.2.2.2.1 hq, fun _ _ h => h⟩
      · have : bm_ix a2 5 = none := by unfold bm_ix; rw [if_neg (by omega)]
        rw [this] at hq; exact hq
theorem qm_step {a0 a1 a2 : Int32} (hw : bm_wfS K S) (h : by_S S w) (hq : Q (br_step S a0 a1 a2) w) : bw_ri E (d + 2) mX12_step [.ref 50, .int a0, .int a1, .int a2] w Q := by
  unfold br_step at hq
  have hC := hw.2.2.2.2.2.2
  have h8 := h.2.2.2.2.2.1
  have hC1 := hC.1
  refine wfX12_step ?_
  rw [h8.1, bm_m_iff (by omega)]
  cases e : bm_ix a0 (st_C S).length with
  | none => rw [e] at hq; exact br_nt (fun q => q rfl) hq
  | some n =>
    rw [e] at hq
    obtain ⟨g, rfl⟩ := bm_ix_some e
    obtain ⟨k1, k2⟩ := h8.2 n g
    obtain ⟨c1, c2, c3⟩ := hC.2 n g
    refine br_nf (by simp) ⟨bm_in (by omega) (by decide), ?_⟩
    rw [nI_clamp (by omega), k1, bm_m_iff (by omega)]
    cases e1 : bm_ix a1 (bm_s (st_C S) n).length with
    | none => simp only [e1] at hq; exact br_nt (fun q => q rfl) hq
    | some i =>
      obtain ⟨g1, rfl⟩ := bm_ix_some e1
      obtain ⟨t0, t1, t2, t3, t4⟩ := k2 i g1
      have o := c3 i g1
      refine br_nf (by simp) ?_
      rw [nl_4, bm_k_iff (n := 5) rfl (by decide)]
      cases e2 : bm_ix a2 5 with
      | none => simp only [e1, e2] at hq; exact br_f (fun q => q rfl) hq
      | some v =>
        simp only [e1, e2] at hq
        obtain ⟨g2, rfl⟩ := bm_ix_some e2
        refine br_t (by simp) ?_
        rw [nl_12, pk_mul, nI_add, pk_mul, nI_add, nI_eq (by omega) (by decide), nI_clamp (by omega), nI_clamp (by omega)]
        refine ⟨fun z => ⟨bm_in (by omega) (by decide), ?_⟩, fun z => ⟨bm_in (by omega) (by decide), ?_⟩⟩
        · rcases (by omega : v = 0 ∨ v = 1 ∨ v = 2 ∨ v = 3) with rfl | rfl | rfl | rfl
          · rw [Nat.add_zero, t0]; exact hq
          · rw [t1]; exact hq
          · rw [t2]; exact hq
          · rw [t3]; exact hq
        · subst z
          rw [t4]
          exact ⟨Q, by_lettersOf (d := d + 1) o.2.2.2.2.2.1 hq, fun _ _ h => h⟩
end STATE
