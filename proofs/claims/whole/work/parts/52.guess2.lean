/-! guesses: which fillings there are -/
def bg_a (A : Int32) (k : Nat) : Bool := decide (((A >>> (nI k &&& 31)) &&& 1) = 1)
theorem bg_a1 {A : Int32} {k : Nat} : ((A >>> (nI k &&& 31)) &&& 1) = 1 ↔ bg_a A k = true := by unfold bg_a; rw [decide_eq_true_iff]
theorem bg_a0 {A : Int32} {k : Nat} : ((A >>> (nI k &&& 31)) &&& 1) = 0 ↔ bg_a A k = false := by
  obtain ⟨j, hj, e⟩ := pk_andE (A >>> (nI k &&& 31)) (m := 1) 1 (by decide)
  unfold bg_a
  rw [e]
  rcases (by omega : j = 0 ∨ j = 1) with rfl | rfl
  · exact ⟨fun _ => by decide, fun _ => rfl⟩
  · exact ⟨fun q => absurd q (by decide), fun q => absurd q (by decide)⟩
def bg_e (A : Int32) (nn k : Nat) : Nat := if bg_a A k then 2 * nn else 1
theorem bg_e_t {A : Int32} {nn k : Nat} (h : bg_a A k = true) : bg_e A nn k = 2 * nn := by unfold bg_e; rw [if_pos h]
theorem bg_e_f {A : Int32} {nn k : Nat} (h : bg_a A k = false) : bg_e A nn k = 1 := by unfold bg_e; rw [if_neg (by rw [h]; decide)]
theorem bg_e_le {A : Int32} {nn k : Nat} (h0 : 0 < nn) (h6 : nn ≤ 6) : 0 < bg_e A nn k ∧ bg_e A nn k ≤ 12 := by unfold bg_e; split <;> omega
def bg_fl (x : Nat) : Option (Nat × Nat) := some (x / 2, 1 + x % 2)
def bg_N (A : Int32) (N : bm_N) (D : Nat → Nat) : bm_N := (bm_frm N, fun k => if bg_a A k = true then bg_fl (D k) else bm_hol N k, bm_str N)
def bg_dg (A : Int32) (nn g k : Nat) : Nat := if k = 0 then g / bg_e A nn 2 / bg_e A nn 1 else if k = 1 then g / bg_e A nn 2 % bg_e A nn 1 else g % bg_e A nn 2
def bg_lf (A : Int32) (nn : Nat) (N : bm_N) (g : Nat) : bm_N := bg_N A N (bg_dg A nn g)
def bg_F (A : Int32) (nn : Nat) : Nat := bg_e A nn 2 * (bg_e A nn 1 * bg_e A nn 0)
theorem bg_F_le {A : Int32} {nn : Nat} (h0 : 0 < nn) (h6 : nn ≤ 6) : bg_F A nn ≤ 1728 := by
  unfold bg_F
  have a := bg_e_le (A := A) (k := 0) h0 h6
  have b := bg_e_le (A := A) (k := 1) h0 h6
  have c := bg_e_le (A := A) (k := 2) h0 h6
  have h1 : bg_e A nn 1 * bg_e A nn 0 ≤ 12 * 12 := Nat.mul_le_mul b.2 a.2
  have h2 : bg_e A nn 2 * (bg_e A nn 1 * bg_e A nn 0) ≤ 12 * (12 * 12) := Nat.mul_le_mul c.2 h1
  omega
theorem bg_dg_lt {A : Int32} {nn g k : Nat} (h0 : 0 < nn) (h6 : nn ≤ 6) (hg : g < bg_F A nn) (hk : k < 3) : bg_dg A nn g k < bg_e A nn k := by
  unfold bg_F at hg
  have b := bg_e_le (A := A) (k := 1) h0 h6
  have c := bg_e_le (A := A) (k := 2) h0 h6
  unfold bg_dg
  rcases (by omega : k = 0 ∨ k = 1 ∨ k = 2) with rfl | rfl | rfl
  · rw [if_pos rfl]; exact Nat.div_lt_of_lt_mul (Nat.div_lt_of_lt_mul hg)
  · rw [if_neg (by decide), if_pos rfl]; exact Nat.mod_lt _ b.1
  · rw [if_neg (by decide), if_neg (by decide)]; exact Nat.mod_lt _ c.1
theorem bg_N_wf {X : bm_X} {N : bm_N} {A : Int32} {D : Nat → Nat} (hW : bm_wfn X N) (hD : ∀ k, k < 3 → bg_a A k = true → D k < 2 * bm_nn X) : bm_wfn X (bg_N A N D) := by
  refine ⟨⟨hW.1.1, fun h n c hh e => ?_⟩, hW.2⟩
  have e2 : (if bg_a A h = true then bg_fl (D h) else bm_hol N h) = some (n, c) := e
  by_cases ha : bg_a A h = true
  · rw [if_pos ha] at e2
    unfold bg_fl at e2
    cases e2
    have := hD h hh ha
    omega
  · rw [if_neg ha] at e2
    exact hW.1.2 h n c hh e2
theorem bg_lf_wf {X : bm_X} {N : bm_N} {A : Int32} {g : Nat} (hW : bm_wfn X N) (h0 : 0 < bm_nn X) (h6 : bm_nn X ≤ 6) (hg : g < bg_F A (bm_nn X)) : bm_wfn X (bg_lf A (bm_nn X) N g) := bg_N_wf hW (fun k hk ha => by
  have := bg_dg_lt h0 h6 hg hk
  rw [bg_e_t ha] at this; exact this)
def bg_P (X : bm_X) (N : bm_N) (A : Int32) (m : Nat) (t : List Nat) (g : Nat) : Bool := bg_asb X (bg_lf A (bm_nn X) N g) m t
/-- the first one so far -/
def bg_fst (P : Nat → Bool) (g f : Nat) : Prop := f < g ∧ P f = true ∧ ∀ j, j < f → P j = false
theorem bg_fst_eq {P : Nat → Bool} {g f : Nat} (h : bg_fst P g f) : f = fa_first P g := by
  rcases Nat.lt_trichotomy f (fa_first P g) with q | q | q
  · have := fa_first_no P g f q
    rw [h.2.1] at this; cases this
  · exact q
  · have := fa_first_yes P g (Nat.lt_trans q h.1)
    rw [h.2.2 _ q] at this; cases this
theorem bg_fst_up {P : Nat → Bool} {g f : Nat} (h : bg_fst P g f) : bg_fst P (g + 1) f := ⟨Nat.lt_succ_of_lt h.1, h.2⟩
theorem bg_cnt0 {P : Nat → Bool} : ∀ {g : Nat}, fa_cnt P g = 0 → ∀ j, j < g → P j = false
  | 0, _, j, h => absurd h (Nat.not_lt_zero j)
  | g + 1, h, j, hj => by
    rw [fa_cnt] at h
    have h1 : fa_cnt P g = 0 := by omega
    by_cases e : j = g
    · subst e
      cases hp : P j with
      | false => rfl
      | true => rw [hp, if_pos rfl] at h; omega
    · exact bg_cnt0 h1 j (by omega)
theorem gw_ite {b : Bool} {w : bw_W} {c k i : Nat} {v : Int64} : gw_l (if b = true then sw_l w c k v else w) c i = if b = true ∧ i = k then v else gw_l w c i := by
  cases b with
  | false => rw [if_neg (by decide), if_neg (fun q => absurd q.1 (by decide))]
  | true =>
    rw [if_pos rfl, gs_ll]
    by_cases e : i = k
    · rw [if_pos ⟨rfl, e⟩, if_pos ⟨rfl, e⟩]
    · rw [if_neg (fun q => e q.2), if_neg (fun q => e q.2)]
/-- what the class holds besides holes that are asked -/
def bgx (A : Int32) (N : bm_N) (w : bw_W) : Prop := ∀ i, i < 52 → (∀ k, k < 3 → bg_a A k = true → i ≠ 48 + k) → gw_l w 32 i = cx_N N i
theorem cx_bgN {A : Int32} {N : bm_N} {D : Nat → Nat} {i : Nat} (h : ∀ k, k < 3 → bg_a A k = true → i ≠ 48 + k) : cx_N (bg_N A N D) i = cx_N N i := by
  unfold cx_N
  by_cases c1 : i < 48
  · rw [if_pos c1, if_pos c1]; rfl
  · rw [if_neg c1, if_neg c1]
    by_cases c2 : i < 51
    · rw [if_pos c2, if_pos c2]
      have ha : ¬ bg_a A (i - 48) = true := fun q => h (i - 48) (by omega) q (by omega)
      have : bm_hol (bg_N A N D) (i - 48) = bm_hol N (i - 48) := by
        show (if bg_a A (i - 48) = true then bg_fl (D (i - 48)) else bm_hol N (i - 48)) = _
        rw [if_neg ha]
      rw [this]
    · rw [if_neg c2, if_neg c2]; rfl
theorem bgx_of {A : Int32} {N : bm_N} {D : Nat → Nat} {w : bw_W} (h : bx_N (bg_N A N D) w) : bgx A N w := fun i hi hk => by
  rw [bx_N_iff.mp h i hi, cx_bgN hk]
section GUESS2
variable {E : bw_E} {d : Nat} {w : bw_W} {X : bm_X} {N : bm_N} {A : Int32} {m : Nat} {t : List Nat}
theorem xs_fb1 {Q : bw_W → Prop} {nn k r : Nat} {g : Int32} (hk : k < 3) (h0 : 0 < nn) (h6 : nn ≤ 6) (hr : r < 2 ^ 30) (h : bw_G E (d + 1) mX11_fillByGuess 21 [some (.ref 0), some (.int A), some (.int g), some (.int (nI (2 * nn))), some (.int (nI (r / bg_e A nn k))), some (.int (nI k + (-1))), none] [] (if bg_a A k = true then sw_l w 32 (48 + k) (lN (bm_hv (bg_fl (r % (2 * nn))))) else w) (bw_qv Q)) : bw_G E (d + 1) mX11_fillByGuess 21 [some (.ref 0), some (.int A), some (.int g), some (.int (nI (2 * nn))), some (.int (nI r)), some (.int (nI k)), none] [] w (bw_qv Q) := by
  refine wfX11_fillByGuess_21 (br_f (nI_pos (by omega)) ?_)
  rw [bg_a0]
  cases ha : bg_a A k with
  | false =>
    rw [bg_e_f ha, Nat.div_one, ha, if_neg (by decide)] at h
    exact br_t rfl h
  | true =>
    rw [bg_e_t ha, ha, if_pos rfl] at h
    have hm : r % (2 * nn) < 12 := by have := Nat.mod_lt r (show 0 < 2 * nn by omega); omega
    refine br_f (by decide) ⟨nI_ne0 (by omega) (by omega), nI_ne0 (by omega) (by omega), bm_in (n := 52) (k := 48 + k) (by omega) (by decide) |> fun z => by rw [nl_48, nI_add]; exact z, ?_⟩
    rw [nl_48, nI_add, nI_clamp (by omega), pk_rem (by omega) (by omega) (by omega), pk_div (by omega) (by omega) (by omega), nl_2, pk_rem (d := 2) (by omega) (by decide) (by decide), pk_div (d := 2) (by omega) (by decide) (by decide), nl_100, pk_mul, nl_1, nI_add, nI_add, nI_add, nI_l (by omega)]
    have e : 1 + r % (2 * nn) / 2 * 100 + (1 + r % (2 * nn) % 2) = bm_hv (bg_fl (r % (2 * nn))) := by
      unfold bg_fl bm_hv; dsimp only; omega
    rw [e]; exact h
theorem xs_fbg {Q : bw_W → Prop} {g : Nat} (hX : bx_X X w) (hI : bgx A N w) (h0 : 0 < bm_nn X) (h6 : bm_nn X ≤ 6) (hg : g < bg_F A (bm_nn X)) (hq : ∀ w', bw_fr [32] w w' → bx_N (bg_lf A (bm_nn X) N g) w' → Q w') : bw_rv E (d + 1) mX11_fillByGuess [.ref 0, .int A, .int (nI g)] w Q := by
  have hF := bg_F_le (A := A) h0 h6
  have d0 := bg_dg_lt h0 h6 hg (show 0 < 3 by decide)
  have hd2 : g / bg_e A (bm_nn X) 2 ≤ g := Nat.div_le_self _ _
  have hd1 : g / bg_e A (bm_nn X) 2 / bg_e A (bm_nn X) 1 ≤ g / bg_e A (bm_nn X) 2 := Nat.div_le_self _ _
  refine wfX11_fillByGuess ?_
  rw [hX.1, nl_2, pk_mul]
  refine br_nt (nI_ne0 (by omega) (by omega)) ?_
  refine xs_fb1 (k := 2) (by decide) h0 h6 (by omega) ?_
  rw [show nI 2 + (-1) = nI 1 from pk_m1 1]
  refine xs_fb1 (k := 1) (by decide) h0 h6 (by omega) ?_
  rw [show nI 1 + (-1) = nI 0 from pk_m1 0]
  refine xs_fb1 (k := 0) (by decide) h0 h6 (by omega) ?_
  refine wfX11_fillByGuess_21 (br_t (by decide) ?_)
  have ifr : ∀ {w' : bw_W} {b : Bool} {k : Nat} {v : Int64}, bw_fr [32] w w' → bw_fr [32] w (if b = true then sw_l w' 32 k v else w') := fun {w' b k v} f => by
    cases b with
    | false => rw [if_neg (by decide)]; exact f
    | true => rw [if_pos rfl]; exact f.sl (by decide)
  refine hq _ (ifr (ifr (ifr (bw_fr.rf _ _)))) (bx_N_iff.mpr (fun i hi => ?_))
  rw [gw_ite, gw_ite, gw_ite]
  by_cases c : ∀ k, k < 3 → bg_a A k = true → i ≠ 48 + k
  · rw [if_neg (fun q => c 0 (by decide) q.1 q.2), if_neg (fun q => c 1 (by decide) q.1 q.2), if_neg (fun q => c 2 (by decide) q.1 q.2), hI i hi c]
    exact (cx_bgN c).symm
  · have hh : ∀ k, k < 3 → bg_a A k = true → cx_N (bg_lf A (bm_nn X) N g) (48 + k) = lN (bm_hv (bg_fl (bg_dg A (bm_nn X) g k))) := fun k hk ha => by
      unfold cx_N
      rw [if_neg (by omega), if_pos (by omega), show 48 + k - 48 = k by omega]
      show lN (bm_hv (if bg_a A k = true then bg_fl (bg_dg A (bm_nn X) g k) else bm_hol N k)) = _
      rw [if_pos ha]
    have hc : ∃ k, k < 3 ∧ bg_a A k = true ∧ i = 48 + k := by
      refine Classical.byContradiction (fun q => c (fun k hk ha e => q ⟨k, hk, ha, e⟩))
    obtain ⟨k, hk, ha, rfl⟩ := hc
    rw [hh k hk ha]
    rcases (by omega : k = 0 ∨ k = 1 ∨ k = 2) with rfl | rfl | rfl
    · rw [if_pos ⟨ha, rfl⟩]
      unfold bg_dg at d0 ⊢
      rw [if_pos rfl] at d0 ⊢
      rw [bg_e_t (k := 0) ha] at d0
      rw [Nat.mod_eq_of_lt d0]
    · rw [if_neg (by omega), if_pos ⟨ha, rfl⟩]
      unfold bg_dg
      rw [if_neg (by decide), if_pos rfl, ← bg_e_t (k := 1) ha]
    · rw [if_neg (by omega), if_neg (by omega), if_pos ⟨ha, rfl⟩]
      unfold bg_dg
      rw [if_neg (by decide), if_neg (by decide), ← bg_e_t (k := 2) ha]
theorem xs_cg {Q : Int32 → bw_W → Prop} (hX : bx_X X w) (hx : bm_wfX X) (hm : m < bm_nm X) (ht : bm_wfT t) (hT : bx_T t w) (hW : bm_wfn X N) (hI : bgx A N w) (h0 : 0 < bm_nn X) (hq : ∀ w', bw_fr [0, 32, 35, 36] w w' → (∀ k, k ≠ 18 → gw_i w' 0 k = gw_i w 0 k) → bgx A N w' → (fa_cnt (bg_P X N A m t) (bg_F A (bm_nn X)) ≠ 0 → ∃ f, bg_fst (bg_P X N A m t) (bg_F A (bm_nn X)) f ∧ gw_i w' 0 18 = nI f) → Q (nI (fa_cnt (bg_P X N A m t) (bg_F A (bm_nn X)))) w') : bw_ri E (d + 5) mX11_countGuesses [.ref 0, .int (nI m), .int A] w Q := by
  have h6 := hx.1
  have hF := bg_F_le (A := A) h0 h6
  have key : ∀ n g (w' : bw_W), g + n = bg_F A (bm_nn X) → bw_fr [0, 32, 35, 36] w w' → (∀ k, k ≠ 18 → gw_i w' 0 k = gw_i w 0 k) → bgx A N w' → (fa_cnt (bg_P X N A m t) g ≠ 0 → ∃ f, bg_fst (bg_P X N A m t) g f ∧ gw_i w' 0 18 = nI f) → bw_G E (d + 5) mX11_countGuesses 44 [some (.ref 0), some (.int (nI m)), some (.int A), some (.int (nI (bg_F A (bm_nn X)))), some (.int (nI (fa_cnt (bg_P X N A m t) g))), some (.int (nI g))] [] w' (bw_qi Q) := by
    intro n
    induction n with
    | zero =>
      intro g w' hg hf h18 hI' hfst
      have e : g = bg_F A (bm_nn X) := by omega
      subst e
      exact wfX11_countGuesses_44 (br_t (nI_le (Nat.le_refl _) (by omega)) (hq w' hf h18 hI' hfst))
    | succ n ih =>
      intro g w' hg hf h18 hI' hfst
      have hX' := hX.fr hf (by decide)
      have hT' := hT.fr hf (by decide) (by decide)
      have hcl := fa_cnt_le (bg_P X N A m t) g
      refine wfX11_countGuesses_44 (br_f (nI_ge (by omega) (by omega)) ⟨fun w3 => bw_fr [32] w' w3 ∧ bx_N (bg_lf A (bm_nn X) N g) w3, xs_fbg (d := d + 3) hX' hI' h0 h6 (by omega) (fun w'' f g => ⟨f, g⟩), ?_⟩)
      rintro w3 ⟨f3, hN3⟩
      refine ⟨fun v w6 => v = bg_P X N A m t g ∧ bw_fr [35, 36] w3 w6, xs_tellsAs (d := d) (hX'.fr f3 (by decide)) hN3 (bg_lf_wf hW h0 h6 (by omega)).1 hx hm ht (hT'.fr f3 (by decide) (by decide)) (fun w'' f => ⟨rfl, f⟩), ?_⟩
      rintro _ w6 ⟨rfl, f6⟩
      have f36 : bw_fr [0, 32, 35, 36] w w6 := (hf.tr (f3.up (by decide))).tr (f6.up (by decide))
      have h36 : ∀ k, gw_i w6 0 k = gw_i w' 0 k := fun k => by rw [f6.i (by decide), f3.i (by decide)]
      have hI6 : bgx A N w6 := bgx_of (hN3.fr f6 (by decide))
      cases hp : bg_P X N A m t g with
      | false =>
        refine ⟨fun _ => ?_, fun z => absurd z br_ft⟩
        have ec := fa_cnt_no (p := bg_P X N A m t) hp
        rw [nI_1, ← ec]
        refine ih (g + 1) w6 (by omega) f36 (fun k hk => by rw [h36]; exact h18 k hk) hI6 (fun z => ?_)
        rw [ec] at z
        obtain ⟨f, a1, a2⟩ := hfst z
        exact ⟨f, bg_fst_up a1, by rw [h36]; exact a2⟩
      | true =>
        refine ⟨fun z => absurd z br_tf, fun _ => ?_⟩
        have ec := fa_cnt_yes (p := bg_P X N A m t) hp
        rw [nI_1, nI_1, ← ec, nI_z (by omega)]
        refine ⟨fun z => ih (g + 1) w6 (by omega) f36 (fun k hk => by rw [h36]; exact h18 k hk) hI6 (fun _ => ?_), fun z => ih (g + 1) _ (by omega) (f36.si (by decide)) (fun k hk => ?_) (fun i hi hk => hI6 i hi hk) (fun _ => ?_)⟩
        · obtain ⟨f, a1, a2⟩ := hfst z
          exact ⟨f, bg_fst_up a1, by rw [h36]; exact a2⟩
        · rw [gs_ii, if_neg (fun q => hk q.2), h36]; exact h18 k hk
        · exact ⟨g, ⟨Nat.lt_succ_self g, hp, fun j hj => bg_cnt0 z j hj⟩, by rw [gs_ii, if_pos ⟨rfl, rfl⟩]⟩
  have step : ∀ k r, k < 3 → r < 2 ^ 20 → bw_G E (d + 5) mX11_countGuesses 5 [some (.ref 0), some (.int (nI m)), some (.int A), some (.int (nI (r * bg_e A (bm_nn X) k))), some (.int (nI (k + 1))), none] [] w (bw_qi Q) → bw_G E (d + 5) mX11_countGuesses 5 [some (.ref 0), some (.int (nI m)), some (.int A), some (.int (nI r)), some (.int (nI k)), none] [] w (bw_qi Q) := by
    intro k r hk hr h
    refine wfX11_countGuesses_5 (br_f (nI_ge (a := k) (b := 3) hk (by decide)) ?_)
    rw [bg_a0, hX.1, nI_1, nl_2, pk_mul, pk_mul]
    cases ha : bg_a A k with
    | false => rw [bg_e_f ha, Nat.mul_one] at h; exact br_t rfl h
    | true => rw [bg_e_t ha] at h; exact br_f (by decide) h
  have a := bg_e_le (A := A) (k := 0) h0 h6
  have b := bg_e_le (A := A) (k := 1) h0 h6
  have m1 : bg_e A (bm_nn X) 0 * bg_e A (bm_nn X) 1 ≤ 12 * 12 := Nat.mul_le_mul a.2 b.2
  refine wfX11_countGuesses (step 0 1 (by decide) (by decide) (step 1 _ (by decide) ?_ (step 2 _ (by decide) ?_ ?_)))
  · rw [Nat.one_mul]; omega
  · rw [Nat.one_mul]; omega
  · rw [Nat.one_mul, show bg_e A (bm_nn X) 0 * bg_e A (bm_nn X) 1 * bg_e A (bm_nn X) 2 = bg_F A (bm_nn X) by unfold bg_F; rw [Nat.mul_comm, Nat.mul_comm (bg_e A (bm_nn X) 0)]]
    exact wfX11_countGuesses_5 (br_t (by decide) (key (bg_F A (bm_nn X)) 0 w (by omega) (bw_fr.rf _ _) (fun _ _ => rfl) hI (fun z => absurd rfl z)))
/-! the answer -/
def bg_wh (b : Int32) : Option (Option Nat) := if b = -1 then some none else match bm_ix b 6 with
  | none => none
  | some j => some (some j)
def br_guess (X : bm_X) (N : bm_N) (t : List Nat) (a b : Int32) : Int32 := match bm_ix a (bm_nm X) with
  | none => -1
  | some m => match bg_wh b with
    | none => -1
    | some o => if fa_cnt (bg_P X N (br_ask X m (bm_cnt X m)) m t) (bg_F (br_ask X m (bm_cnt X m)) (bm_nn X)) = 0 then -1 else match o with
      | none => nI (fa_cnt (bg_P X N (br_ask X m (bm_cnt X m)) m t) (bg_F (br_ask X m (bm_cnt X m)) (bm_nn X)))
      | some j => if bg_a (br_ask X m (bm_cnt X m)) (j % 3) = true then (if 3 ≤ j then nI (1 + bg_dg (br_ask X m (bm_cnt X m)) (bm_nn X) (fa_first (bg_P X N (br_ask X m (bm_cnt X m)) m t) (bg_F (br_ask X m (bm_cnt X m)) (bm_nn X))) (j % 3) % 2) else nI (bg_dg (br_ask X m (bm_cnt X m)) (bm_nn X) (fa_first (bg_P X N (br_ask X m (bm_cnt X m)) m t) (bg_F (br_ask X m (bm_cnt X m)) (bm_nn X))) (j % 3) / 2)) else -1
theorem bg_wh_iff {b : Int32} : ((¬ (b < (-1))) ∧ (b < 6)) ↔ bg_wh b ≠ none := by
  rw [fa_lt, fa_lt, show (-1 : Int32).toInt = -1 from rfl, show (6 : Int32).toInt = 6 from rfl]
  unfold bg_wh
  by_cases e : b = -1
  · rw [if_pos e, e]; exact ⟨fun _ q => (by cases q), fun _ => (by decide)⟩
  · rw [if_neg e]
    have e2 : b.toInt ≠ -1 := fun q => e ((fa_eq b (-1)).mpr q)
    unfold bm_ix
    by_cases c : 0 ≤ b.toInt ∧ b.toInt < (6 : Nat)
    · rw [if_pos c]; exact ⟨fun _ q => (by cases q), fun _ => (by omega)⟩
    · rw [if_neg c]; exact ⟨fun q => absurd (by omega) c, fun q => absurd rfl q⟩
theorem bg_wh_iff2 {b : Int32} : ((¬ (b < (-1))) ∧ (¬ (5 < b))) ↔ bg_wh b ≠ none := by
  rw [← bg_wh_iff, fa_lt, fa_lt, fa_lt, show (5 : Int32).toInt = 5 from rfl, show (6 : Int32).toInt = 6 from rfl]
  omega
theorem bg_wh_some {b : Int32} {o : Option Nat} (h : bg_wh b = some o) : (o = none ∧ b = -1) ∨ ∃ j, o = some j ∧ j < 6 ∧ b = nI j := by
  unfold bg_wh at h
  by_cases e : b = -1
  · rw [if_pos e] at h; cases h; exact Or.inl ⟨rfl, e⟩
  · rw [if_neg e] at h
    cases e1 : bm_ix b 6 with
    | none => rw [e1] at h; cases h
    | some j => rw [e1] at h; cases h; obtain ⟨g, rfl⟩ := bm_ix_some e1; exact Or.inr ⟨j, rfl, g, rfl⟩
theorem bx_S.frG {K : Nat} {S : bm_S} {w' : bw_W} {L : List Nat} (hw : bm_wfS K S) (h : bx_S S w) (hf : bw_fr L w w') (hl : ∀ c, c ∈ L → bx_sc c ∨ c = 32 ∨ c = 0) (h0 : ∀ k, k ≠ 18 → gw_i w' 0 k = gw_i w 0 k) (hN : bx_N (st_N S) w') : bx_S S w' := by
  have hn : ∀ c, ¬ bx_sc c → c ≠ 32 → c ≠ 0 → c ∉ L := fun c h g k q => (hl c q).elim h (fun z => z.elim g k)
  unfold bx_sc at hn hl
  obtain ⟨h1, h2, h3, h4, h5, h6, h7, h8, h9⟩ := h
  have hC := hw.2.2.2.2.2.2
  refine ⟨h1.fr hf (hn _ (by omega) (by omega) (by omega)) (hn _ (by omega) (by omega) (by omega)), h2.fr hf (fun c q => by have := hl c q; omega), ?_, hN, h5.fr hf (hn _ (by omega) (by omega) (by omega)) (hn _ (by omega) (by omega) (by omega)), h6.fr hf (hn _ (by omega) (by omega) (by omega)) (hn _ (by omega) (by omega) (by omega)) (hn _ (by omega) (by omega) (by omega)), ⟨by rw [h0 14 (by decide)]; exact h7.1, fun p hp => ⟨by rw [hf.fl (hn _ (by omega) (by omega) (by omega))]; exact (h7.2 p hp).1, (h7.2 p hp).2.fr hf (hn _ (by omega) (by omega) (by omega)) (hn _ (by omega) (by omega) (by omega))⟩⟩, ⟨by rw [h0 7 (by decide)]; exact h8.1, fun n hn2 => ⟨?_, fun i hi => ?_⟩⟩, h9.fr hf (hn _ (by omega) (by omega) (by omega))⟩
  · show gw_i w' 0 5 = _
    rw [h0 5 (by decide)]; exact h3
  · rw [hf.i (hn _ (by omega) (by omega) (by omega))]; exact (h8.2 n hn2).1
  · exact ((h8.2 n hn2).2 i hi).fr hf (hn _ (by omega) (by omega) (by omega))
abbrev bx_gl : List Nat := [0, 32, 34, 35, 36]
theorem bx_gl_sc : ∀ c, c ∈ bx_gl → bx_sc c ∨ c = 32 ∨ c = 0 := fun c q => by
  have : ∀ c, c ∈ bx_gl → c = 0 ∨ c = 32 ∨ c = 34 ∨ c = 35 ∨ c = 36 := by decide
  have := this c q
  unfold bx_sc; omega
theorem qx_guess {K : Nat} {S : bm_S} {Q : Int32 → bw_W → Prop} {a0 a1 : Int32} (hw : bm_wfS K S) (h : bx_S S w) (hq : ∀ w', bw_fr bx_gl w w' → bx_S S w' → Q (br_guess (st_X S) (st_N S) (st_t S) a0 a1) w') : bw_ri E (d + 6) mX11_guess [.ref 0, .int a0, .int a1] w Q := by
  have hx := hw.2.1
  have hm4 := hx.2.1
  have h6 := hx.1
  unfold br_guess at hq
  refine wfX11_guess ?_
  rw [h.2.1.2.1, bm_x_iff (by omega)]
  cases e0 : bm_ix a0 (bm_nm (st_X S)) with
  | none => rw [e0] at hq; exact br_nt (fun q => q rfl) (hq w (bw_fr.rf _ _) h)
  | some m =>
    rw [e0] at hq
    obtain ⟨gm, rfl⟩ := bm_ix_some e0
    simp only at hq
    have h0 : 0 < bm_nn (st_X S) := by
      rcases Nat.eq_zero_or_pos (bm_nn (st_X S)) with z | z
      · have := hx.2.2.2.2.2 z; omega
      · exact z
    refine br_nf (by simp) (br_mid bg_wh_iff (fun z => ?_) (fun z => by rw [Classical.not_not.mp z] at hq; exact hq w (bw_fr.rf _ _) h))
    cases e1 : bg_wh a1 with
    | none => exact absurd e1 z
    | some o =>
      rw [e1] at hq
      simp only at hq
      refine ⟨fun v w3 => br_ask (st_X S) m (bm_cnt (st_X S) m) = v ∧ w = w3, xs_ask (d := d + 5) h.2.1 hx gm ⟨rfl, rfl⟩, ?_⟩
      rintro _ _ ⟨rfl, rfl⟩
      generalize hA : br_ask (st_X S) m (bm_cnt (st_X S) m) = A at hq ⊢
      generalize hw1 : cw_l w 34 (fun j => if j < 52 then (gw_l w 32 j) else (gw_l w 34 j)) = w1
      have f1 : bw_fr bx_gl w w1 := by rw [← hw1]; exact (bw_fr.rf _ _).cl (by decide)
      have e34 : ∀ i, i < 52 → gw_l w1 34 i = gw_l w 32 i := fun i hi => by rw [← hw1, gc_ll, if_pos rfl, if_pos hi]
      have g0 : ∀ k, gw_i w1 0 k = gw_i w 0 k := fun k => by rw [← hw1]; rfl
      have hI1 : bgx A (st_N S) w1 := fun i hi _ => by rw [← hw1, gc_ll, if_neg (by decide)]; exact bx_N_iff.mp h.2.2.2.1 i hi
      refine ⟨fun v w6 => v = nI (fa_cnt (bg_P (st_X S) (st_N S) A m (st_t S)) (bg_F A (bm_nn (st_X S)))) ∧ bw_fr [0, 32, 35, 36] w1 w6 ∧ (∀ k, k ≠ 18 → gw_i w6 0 k = gw_i w1 0 k) ∧ bgx A (st_N S) w6 ∧ (fa_cnt (bg_P (st_X S) (st_N S) A m (st_t S)) (bg_F A (bm_nn (st_X S))) ≠ 0 → ∃ f, bg_fst (bg_P (st_X S) (st_N S) A m (st_t S)) (bg_F A (bm_nn (st_X S))) f ∧ gw_i w6 0 18 = nI f), xs_cg (d := d) (h.2.1.fr f1 (by decide)) hx gm hw.1 (h.1.fr f1 (by decide) (by decide)) hw.2.2.1 hI1 h0 (fun w' f k i g => ⟨rfl, f, k, i, g⟩), ?_⟩
      rintro _ w6 ⟨rfl, f6, k6, i6, c6⟩
      have hcl := fa_cnt_le (bg_P (st_X S) (st_N S) A m (st_t S)) (bg_F A (bm_nn (st_X S)))
      have hF := bg_F_le (A := A) h0 h6
      have f16 : bw_fr bx_gl w w6 := f1.tr (f6.up (by decide))
      have fin : ∀ w', bw_fr bx_gl w w' → (∀ k, k ≠ 18 → gw_i w' 0 k = gw_i w 0 k) → (∀ i, i < 52 → gw_l w' 34 i = gw_l w 32 i) → bw_fr bx_gl w (cw_l w' 32 (fun j => if j < 52 then (gw_l w' 34 j) else (gw_l w' 32 j))) ∧ bx_S S (cw_l w' 32 (fun j => if j < 52 then (gw_l w' 34 j) else (gw_l w' 32 j))) := fun w' f' k' e' => by
        have fF : bw_fr bx_gl w (cw_l w' 32 (fun j => if j < 52 then (gw_l w' 34 j) else (gw_l w' 32 j))) := f'.cl (by decide)
        refine ⟨fF, h.frG hw fF bx_gl_sc (fun k hk => by rw [gc_il]; exact k' k hk) (bx_N_iff.mpr (fun i hi => ?_))⟩
        rw [gc_ll, if_pos rfl, if_pos hi, e' i hi]; exact bx_N_iff.mp h.2.2.2.1 i hi
      have e34' : ∀ i, i < 52 → gw_l w6 34 i = gw_l w 32 i := fun i hi => by rw [f6.l (by decide)]; exact e34 i hi
      have k6' : ∀ k, k ≠ 18 → gw_i w6 0 k = gw_i w 0 k := fun k hk => by rw [k6 k hk, g0]
      have fn6 := fin w6 f16 k6' e34'
      have qq := hq _ fn6.1 fn6.2
      rw [nI_z (by omega)]
      refine ⟨fun zc => ?_, fun zc => ?_⟩
      · rw [if_neg zc] at qq
        refine br_f (nI_nle (by omega) (by omega)) ?_
        rcases bg_wh_some e1 with ⟨rfl, rfl⟩ | ⟨j, rfl, hj, rfl⟩
        · exact br_t rfl qq
        · refine br_f (nI_ne_m1 (by omega)) ?_
          obtain ⟨f, b1, b2⟩ := c6 zc
          rw [b2]
          refine ⟨fun w9 => bw_fr [32] w6 w9 ∧ bx_N (bg_lf A (bm_nn (st_X S)) (st_N S) f) w9, xs_fbg (d := d + 4) (h.2.1.fr f16 (by decide)) i6 h0 h6 b1.1 (fun w' f g => ⟨f, g⟩), ?_⟩
          rintro w9 ⟨f9, hN9⟩
          have fn9 := fin w9 (f16.tr (f9.up (by decide))) (fun k hk => by rw [f9.i (by decide)]; exact k6' k hk) (fun i hi => by rw [f9.l (by decide)]; exact e34' i hi)
          have q9 := hq _ fn9.1 fn9.2
          rw [if_neg zc] at q9
          simp only at q9
          rw [← bg_fst_eq b1] at q9
          have ej : nI j - nI j / 3 * 3 = nI (j % 3) := pk_rem (d := 3) (by omega) (by decide) (by decide)
          have j3 : j % 3 < 3 := Nat.mod_lt _ (by decide)
          unfold vX11_guessedIn
          rw [ej]
          refine ⟨fun _ _ => xv_in j3, fun _ _ => xv_in j3, ?_⟩
          have hwf := bg_lf_wf (A := A) hw.2.2.1 h0 h6 b1.1
          cases ha : bg_a A (j % 3) with
          | false =>
            rw [ha, if_neg (by decide)] at q9
            rw [if_neg (fun q => q (bg_a0.mpr ha))]; exact q9
          | true =>
            rw [ha, if_pos rfl] at q9
            have eh : bm_hol (bg_lf A (bm_nn (st_X S)) (st_N S) f) (j % 3) = some (bg_dg A (bm_nn (st_X S)) f (j % 3) / 2, 1 + bg_dg A (bm_nn (st_X S)) f (j % 3) % 2) := by
              show (if bg_a A (j % 3) = true then bg_fl (bg_dg A (bm_nn (st_X S)) f (j % 3)) else bm_hol (st_N S) (j % 3)) = _
              rw [if_pos ha]; rfl
            rw [if_pos (fun q => by rw [bg_a0.mp q] at ha; cases ha), xv_noun hN9 hwf.1 hx j3 eh, xv_count hN9 hwf.1 hx j3 eh]
            by_cases c3 : 3 ≤ j
            · rw [if_pos c3] at q9
              rw [if_pos (show (3 : Int32) ≤ nI j from nI_le (a := 3) c3 (by omega))]; exact q9
            · rw [if_neg c3] at q9
              rw [if_neg (show ¬ (3 : Int32) ≤ nI j from nI_ge (a := j) (b := 3) (by omega) (by decide))]; exact q9
      · rw [if_pos zc] at qq
        rw [zc]
        exact br_t (by decide) qq
end GUESS2
