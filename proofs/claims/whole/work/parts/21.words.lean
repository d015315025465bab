/-! letters of words, on both sides -/
theorem bx_letter {u : List Nat} {i : Nat} (hu : bm_ok u) (hi : i < 8) : vX11_letterOf (bx_w u) (nI i) = nI (if i < u.length then 96 + u.getD i 0 else 0) := by
  have hs : ∀ j, j < 8 → ((8 * nI j).toInt64.toUInt64 &&& Int64.toUInt64 63) = UInt64.ofNat (8 * j) := by decide
  unfold vX11_letterOf bx_w
  rw [hs i hi, bm_shr (bm_pk_lt hu) (by omega), lN_i]
  rw [show (255 : Int32) = nI (2 ^ 8 - 1) from rfl, fa_mask]
  rw [show 2 ^ (8 * i) = 256 ^ i by rw [Nat.pow_mul], show 2 ^ 8 = 256 from rfl, bm_pk_at u i hu.2]
theorem bx_lettersOf {E : bw_E} {d : Nat} {w : bw_W} {Q : Int32 → bw_W → Prop} {u : List Nat} (hu : bm_ok u) (hq : Q (nI u.length) w) : bw_ri E (d + 1) mX11_lettersOf [.long (bx_w u)] w Q := by
  have hl := hu.1
  have key : ∀ n i, i ≤ u.length → u.length - i = n → bw_G E (d + 1) mX11_lettersOf 2 [some (.long (bx_w u)), none, some (.int (nI i))] [] w (bw_qi Q) := by
    intro n
    induction n with
    | zero =>
      intro i h1 h2
      have e : i = u.length := by omega
      subst e
      refine wfX11_lettersOf_2 ⟨fun _ => hq, fun c => ⟨fun _ => hq, fun c2 => ?_⟩⟩
      have h8 : ¬ 8 ≤ u.length := fun q => c ((nI_leI (a := 8) (by decide) (by omega)).mpr q)
      rw [bx_letter hu (by omega)] at c2
      simp at c2
      exact absurd rfl c2
    | succ n ih =>
      intro i h1 h2
      have hlt : i < u.length := by omega
      refine wfX11_lettersOf_2 ⟨fun c => ?_, fun c => ⟨fun c2 => ?_, fun c2 => ?_⟩⟩
      · exact absurd ((nI_leI (a := 8) (by decide) (by omega)).mp c) (by omega)
      · rw [bx_letter hu (by omega), if_pos hlt] at c2
        have := (nI_eq (b := 0) (by have := hu.2 (u.getD i 0) (by rw [List.getD_eq_getElem?_getD, List.getElem?_eq_getElem hlt]; exact List.getElem_mem hlt); omega) (by decide)).mp c2
        omega
      · rw [nI_1]
        exact ih (i + 1) (by omega) (by omega)
  exact wfX11_lettersOf (key u.length 0 (by omega) (by omega))
theorem by_lettersOf {E : bw_E} {d : Nat} {w : bw_W} {Q : Int32 → bw_W → Prop} {u : List Nat} (hu : bm_ok u) (hq : Q (nI u.length) w) : bw_ri E (d + 0) mX12_lettersOf [.long (by_w u)] w Q := by
  have key : ∀ (r : List Nat) (i : Nat), (∀ x ∈ r, 1 ≤ x ∧ x ≤ 26) → r.length ≤ 8 → i + r.length = u.length → bw_G E (d + 0) mX12_lettersOf 4 [some (.long (by_w u)), none, some (.int (nI i)), some (.long (lN (bm_rv r))), none] [] w (bw_qi Q) := by
    intro r
    induction r with
    | nil =>
      intro i _ _ h
      have e : i = u.length := by simpa using h
      subst e
      exact wfX12_lettersOf_4 ⟨fun _ => hq, fun c => absurd (Int64.le_refl _) c⟩
    | cons x r ih =>
      intro i h1 h2 h3
      have hx := h1 x List.mem_cons_self
      have hr : ∀ y ∈ r, 1 ≤ y ∧ y ≤ 26 := fun y hy => h1 y (List.mem_cons_of_mem _ hy)
      have hb : bm_rv (x :: r) < 2 ^ 39 := by
        have := bm_rv_lt (x :: r) h1
        have h4 : 27 ^ (x :: r).length ≤ 27 ^ 8 := Nat.pow_le_pow_right (by decide) h2
        have h5 : 27 ^ 8 < 2 ^ 39 := by decide
        omega
      refine wfX12_lettersOf_4 ⟨fun c => ?_, fun c => ?_⟩
      · have := (bm_lle (b := 0) (by omega) (by decide)).mp c
        simp only [bm_rv] at this
        omega
      · rw [nI_1, show (27 : Int64) = lN 27 from rfl, bm_ldiv (by omega) (by decide) (by decide)]
        have e : bm_rv (x :: r) / 27 = bm_rv r := by simp only [bm_rv]; omega
        rw [e]
        exact ih (i + 1) hr (by simp only [List.length_cons] at h2; omega) (by simp only [List.length_cons] at h3; omega)
  exact wfX12_lettersOf (key u.reverse 0 (fun x hx => hu.2 x (List.mem_reverse.mp hx)) (by rw [List.length_reverse]; exact hu.1) (by rw [List.length_reverse]; omega))
theorem by_letterOf {E : bw_E} {d : Nat} {w : bw_W} {Q : Int32 → bw_W → Prop} {u : List Nat} {i : Nat} (hu : bm_ok u) (hi : i < u.length) (hq : Q (nI (96 + u.getD i 0)) w) : bw_ri E (d + 1) mX12_letterOf [.long (by_w u), .int (nI i)] w Q := by
  have hl := hu.1
  have key : ∀ (n : Nat) (r : List Nat), i + n < 8 → (∀ x ∈ r, 1 ≤ x ∧ x ≤ 26) → r.length ≤ 8 → r.getD n 0 = u.getD i 0 → n < r.length → bw_G E (d + 1) mX12_letterOf 10 [some (.long (by_w u)), none, some (.int (nI i)), some (.long (lN (bm_rv r))), none, some (.int (nI (i + n)))] [] w (bw_qi Q) := by
    intro n
    induction n with
    | zero =>
      intro r h0 h1 h2 h3 h4
      cases r with
      | nil => simp at h4
      | cons x r =>
        have hx := h1 x List.mem_cons_self
        have hb : bm_rv (x :: r) < 2 ^ 63 := by
          have := bm_rv_lt (x :: r) h1
          have h4 : 27 ^ (x :: r).length ≤ 27 ^ 8 := Nat.pow_le_pow_right (by decide) h2
          have h5 : 27 ^ 8 < 2 ^ 39 := by decide
          omega
        refine wfX12_letterOf_10 ⟨fun c => ?_, fun c => absurd (Int32.le_refl _) c⟩
        rw [show (27 : Int64) = lN 27 from rfl, bm_lrem hb (by decide) (by decide), lN_i]
        have e : bm_rv (x :: r) % 27 = x := by simp only [bm_rv]; omega
        rw [e, show (97 : Int32) = nI 97 from rfl, nI_add, show (1 : Int32) = nI 1 from rfl, pk_sub (by omega)]
        simp only [List.getD_cons_zero] at h3
        rw [show 97 + x - 1 = 96 + x by omega, h3]
        exact hq
    | succ n ih =>
      intro r h0 h1 h2 h3 h4
      cases r with
      | nil => simp at h4
      | cons x r =>
        have hx := h1 x List.mem_cons_self
        have hb : bm_rv (x :: r) < 2 ^ 63 := by
          have := bm_rv_lt (x :: r) h1
          have h4 : 27 ^ (x :: r).length ≤ 27 ^ 8 := Nat.pow_le_pow_right (by decide) h2
          have h5 : 27 ^ 8 < 2 ^ 39 := by decide
          omega
        refine wfX12_letterOf_10 ⟨fun c => ?_, fun c => ?_⟩
        · exact absurd ((nI_leI (by omega) (by omega)).mp c) (by omega)
        · rw [show (27 : Int64) = lN 27 from rfl, bm_ldiv hb (by decide) (by decide)]
          have e : bm_rv (x :: r) / 27 = bm_rv r := by simp only [bm_rv]; omega
          rw [e, show i + (n + 1) = (i + n) + 1 by omega, pk_m1]
          exact ih r (by omega) (fun y hy => h1 y (List.mem_cons_of_mem _ hy)) (by simp only [List.length_cons] at h2; omega) (by simpa using h3) (by simpa using h4)
  refine wfX12_letterOf ⟨_, by_lettersOf (d := d) (Q := fun v w1 => nI u.length = v ∧ w = w1) hu ⟨rfl, rfl⟩, ?_⟩
  rintro v w3 ⟨rfl, rfl⟩
  rw [show (1 : Int32) = nI 1 from rfl, pk_sub (by omega)]
  have e : u.length - 1 = i + (u.length - 1 - i) := by omega
  rw [e]
  refine key (u.length - 1 - i) u.reverse (by omega) (fun x hx => hu.2 x (List.mem_reverse.mp hx)) (by rw [List.length_reverse]; exact hl) ?_ (by rw [List.length_reverse]; omega)
  rw [List.getD_eq_getElem?_getD, List.getD_eq_getElem?_getD, List.getElem?_reverse (by omega)]
  rw [show u.length - 1 - (u.length - 1 - i) = i by omega]
theorem bx_lettersOrOne {E : bw_E} {d : Nat} {w : bw_W} {Q : Int32 → bw_W → Prop} {u : List Nat} {i : Int32} (hu : bm_ok u) (hq : Q (if i = -1 then nI u.length else if 0 ≤ i.toInt ∧ i.toInt < u.length then nI (96 + u.getD i.toNatClampNeg 0) else -1) w) : bw_ri E (d + 2) mX11_lettersOrOne [.long (bx_w u), .int i] w Q := by
  have hl := hu.1
  refine wfX11_lettersOrOne ⟨_, bx_lettersOf (d := d) (Q := fun v w1 => nI u.length = v ∧ w = w1) hu ⟨rfl, rfl⟩, ?_⟩
  rintro v w3 ⟨rfl, rfl⟩
  refine ⟨fun c => ⟨fun c1 => ?_, fun c1 => ⟨fun c2 => ?_, fun c2 => ?_⟩⟩, fun c => ?_⟩
  · rw [if_neg c, if_neg (fun q => absurd ((fa_lt _ _).mp c1) (by show ¬ i.toInt < 0; omega))] at hq
    exact hq
  · have h2 := (fa_le _ _).mp c2
    rw [nI_toInt (by omega)] at h2
    rw [if_neg c, if_neg (by omega)] at hq
    exact hq
  · obtain ⟨j, hj, rfl⟩ := nI_of c1
    have h2 : j < u.length := by
      rcases Nat.lt_or_ge j u.length with q | q
      · exact q
      · exact absurd (nI_le q hj) c2
    rw [if_neg c, nI_toInt hj, if_pos (by omega), nI_clamp hj] at hq
    rw [bx_letter hu (by omega), if_pos h2]
    exact hq
  · rw [if_pos c] at hq
    exact hq
theorem by_letter {E : bw_E} {d : Nat} {w : bw_W} {Q : Int32 → bw_W → Prop} {u : List Nat} {i : Int32} (hu : bm_ok u) (hq : Q (if i = -1 then nI u.length else if 0 ≤ i.toInt ∧ i.toInt < u.length then nI (96 + u.getD i.toNatClampNeg 0) else -1) w) : bw_ri E (d + 2) mX12_letter [.long (by_w u), .int i] w Q := by
  have hl := hu.1
  refine wfX12_letter ⟨_, by_lettersOf (d := d + 1) (Q := fun v w1 => nI u.length = v ∧ w = w1) hu ⟨rfl, rfl⟩, ?_⟩
  rintro v w3 ⟨rfl, rfl⟩
  have hm : (nI u.length - 1).toInt = (u.length : Int) - 1 := pk_sub_toInt (a := u.length) (b := 1) (by omega) (by decide)
  refine ⟨fun c => ⟨fun c1 => ?_, fun c1 => ?_⟩, fun c => ?_⟩
  · have h2 : ¬ (0 ≤ i.toInt ∧ i.toInt < u.length) := by
      intro q
      refine c1 ⟨fun z => ?_, fun z => ?_⟩
      · have := (fa_lt _ _).mp z
        have h0 : (0 : Int32).toInt = 0 := rfl
        omega
      · have := (fa_lt _ _).mp z
        omega
    rw [if_neg c, if_neg h2] at hq
    exact hq
  · obtain ⟨j, hj, rfl⟩ := nI_of c1.1
    have h2 : j < u.length := by
      have := mt (fa_lt _ _).mpr c1.2
      rw [hm, nI_toInt hj] at this
      omega
    rw [if_neg c, nI_toInt hj, if_pos (by omega), nI_clamp hj] at hq
    exact ⟨_, by_letterOf (d := d) hu h2 hq, fun v w6 h => h⟩
  · rw [if_pos c] at hq
    exact hq
