section XTELL3
variable {E : bw_E} {d : Nat} {w : bw_W} {X : bm_X} {N : bm_N}
theorem bm_form_ok (hW : bm_wfN X N) (hx : bm_wfX X) {n k u : Nat} (hn : n < bm_nn X) (hk : k < 4) (hu : u < 2) : bm_ok (bm_form X N n k u) := by
  have h6 := hx.1
  unfold bm_form
  split
  · exact hW.1 _ (by omega)
  · exact hW.1 _ (by omega)
  · exact hW.1 _ (by omega)
  · exact hW.1 _ (by omega)
  · exact (hx.2.2.1 n hn).1
theorem bm_wd_ok (hx : bm_wfX X) {p k u kd : Nat} (hp : p < 2) (hk : k < 4) (hu : u < 2) (hkd : kd < 3) : bm_ok (bm_wd X p k u kd) := by
  unfold bm_wd
  split
  · exact hx.2.2.2.1 _ (by omega)
  · exact hx.2.2.2.1 _ (by omega)
theorem bm_app_len (l t : List Nat) : (bm_app l t).length ≤ l.length + 1 + t.length := by
  unfold bm_app
  split
  · omega
  · split
    · omega
    · rw [List.length_append, List.length_cons]; omega
theorem bm_by_len (u : List Nat) : (bm_by u).length = u.length := by unfold bm_by; rw [List.length_map]
theorem xv_bound (hX : bx_X X w) (hx : bm_wfX X) {p k u kd : Nat} (hp : p < 2) (hk : k < 4) (hu : u < 2) (hkd : kd < 3) : vX3_boundWord w (22 + p) (nI k) (nI u) (nI kd) = bx_w (bm_wd X p k u kd) := by
  have tb : ∀ j, j < 24 → gw_l w (22 + p) j = bx_w (bm_wds X (24 * p + j)) := by
    intro j hj
    have : p = 0 ∨ p = 1 := by omega
    rcases this with rfl | rfl
    · rw [(hX.2.2.2.1 j hj).1]; congr 2; omega
    · exact (hX.2.2.2.1 j hj).2
  unfold vX3_boundWord
  rw [nl_2, nl_3, nl_0, pk_mul, nI_add, pk_mul, nI_add, nI_add, nI_clamp (by omega), nI_clamp (by omega), tb _ (by omega), tb _ (by omega)]
  have e1 : 24 * p + ((k * 2 + u) * 3 + kd) = 24 * p + (2 * k + u) * 3 + kd := by omega
  have e2 : 24 * p + ((k * 2 + u) * 3 + 0) = 24 * p + (2 * k + u) * 3 := by omega
  rw [e1, e2]
  have ho := hx.2.2.2.1 (24 * p + (2 * k + u) * 3 + kd) (by omega)
  unfold bm_wd
  by_cases hz : bm_wds X (24 * p + (2 * k + u) * 3 + kd) = []
  · rw [if_pos ((bx_w0 ho).mpr hz), if_neg (fun q => q hz)]
  · rw [if_neg (fun q => hz ((bx_w0 ho).mp q)), if_pos hz]
theorem xs_formIn {Q : Int64 → bw_W → Prop} (hX : bx_X X w) (hN : bx_N N w) (hW : bm_wfN X N) (hx : bm_wfX X) {k h b n c : Nat} (hk : k < 32) (h27 : gw_i w 27 k = nI h) (h28 : gw_i w 28 k = nI b) (hh : h < 3) (hb : b < 4) (e : bm_hol N h = some (n, c)) (hq : Q (bx_w (bm_form X N n b (bm_num c))) w) : bw_rl E (d + 2) mX10_formIn [.ref 35, .int (nI k)] w Q := by
  have g1 := (hW.2 h n c hh e).1
  have hkin : vp_in (nI k) 32 := bm_in hk (by decide)
  refine wfX10_formIn ?_
  rw [nI_clamp (by omega), h27, h28, xv_noun hN hW hx hh e, xv_num hN hW hx hh e]
  exact ⟨hkin, xv_in hh, hkin, xv_in hh, Q, xs_form hX hN hW hx g1 hb (bm_num_lt c) hq, fun v w7 h => h⟩
theorem xs_boundIn {Q : Int64 → bw_W → Prop} (hX : bx_X X w) (hN : bx_N N w) (hW : bm_wfN X N) (hx : bm_wfX X) {k s h b n c : Nat} (hk : k < 32) (hs : s = 2 ∨ s = 3) (h26 : gw_i w 26 k = nI (bm_sg s)) (h27 : gw_i w 27 k = nI h) (h28 : gw_i w 28 k = nI b) (hh : h < 3) (hb : b < 4) (e : bm_hol N h = some (n, c)) (hq : Q (bx_w (bm_wd X (s - 2) b (bm_num c) (bm_knd X n))) w) : bw_rl E (d + 2) mX10_boundWordIn [.ref 35, .int (nI k)] w Q := by
  have g1 := (hW.2 h n c hh e).1
  have g2 := hx.1
  have g3 := (hx.2.2.1 n g1).2.2
  have g4 := bm_num_lt c
  have hkin : vp_in (nI k) 32 := bm_in hk (by decide)
  have i6 : vp_in (nI n) 6 := bm_in (by omega) (by decide)
  have i1 : vp_in ((nI b * 2 + nI (bm_num c)) * 3 + nI (bm_knd X n)) 24 := by
    rw [nl_2, nl_3, pk_mul, nI_add, pk_mul, nI_add]
    exact bm_in (by omega) (by decide)
  have i2 : vp_in ((nI b * 2 + nI (bm_num c)) * 3 + 0) 24 := by
    rw [nl_2, nl_3, nl_0, pk_mul, nI_add, pk_mul, nI_add]
    exact bm_in (by omega) (by decide)
  refine wfX10_boundWordIn ?_
  rw [nI_clamp (by omega), h26, h27, h28, xv_noun hN hW hx hh e, xv_num hN hW hx hh e, nI_clamp (by omega), (hX.2.2.1 n g1).2]
  refine ⟨hkin, xv_in hh, i6, hkin, ?_⟩
  rcases hs with rfl | rfl
  · refine br_nt (by decide) ⟨hkin, xv_in hh, i1, fun _ => i2, ?_⟩
    rw [xv_bound (p := 0) hX hx (by omega) hb g4 g3]
    exact hq
  · refine br_nf rfl ⟨hkin, xv_in hh, i1, fun _ => i2, ?_⟩
    rw [xv_bound (p := 1) hX hx (by omega) hb g4 g3]
    exact hq
theorem bm_say_len (hW : bm_wfN X N) (hx : bm_wfX X) {q : Nat × Nat × Nat × List Nat} (ho : bm_itok q) (l : List Nat) : (bm_say X N q l).length ≤ l.length + 18 := by
  obtain ⟨s, h, b, u⟩ := q
  obtain ⟨o1, o2, o3, o4, o5⟩ := ho
  dsimp only at *
  unfold bm_say
  dsimp only
  split
  · rename_i hs
    have := bm_app_len l (bm_by u)
    rw [bm_by_len] at this
    have := (o2 hs).1.1
    omega
  · rename_i hs
    cases e : bm_hol N h with
    | none => dsimp only; omega
    | some p =>
      obtain ⟨n, c⟩ := p
      have hh := o3 hs
      have g1 := hW.2 h n c hh e
      have g3 := (hx.2.2.1 n g1.1).2.2
      dsimp only
      split
      · have hb := o4 (by omega)
        have := bm_app_len l (bm_by (bm_form X N n b (bm_num c)))
        rw [bm_by_len] at this
        have := (bm_form_ok hW hx g1.1 hb (bm_num_lt c)).1
        omega
      · split
        · have hb := o4 (by omega)
          have a1 := bm_app_len l (bm_by (bm_wd X 0 b (bm_num c) (bm_knd X n)))
          have a2 := bm_app_len (bm_app l (bm_by (bm_wd X 0 b (bm_num c) (bm_knd X n)))) (bm_by (bm_form X N n b (bm_num c)))
          rw [bm_by_len] at a1 a2
          have := (bm_form_ok hW hx g1.1 hb (bm_num_lt c)).1
          have := (bm_wd_ok hx (p := 0) (by omega) hb (bm_num_lt c) g3).1
          omega
        · split
          · have hb := o4 (by omega)
            have a1 := bm_app_len l (bm_by (bm_wd X 1 b (bm_num c) (bm_knd X n)))
            rw [bm_by_len] at a1
            have := (bm_wd_ok hx (p := 1) (by omega) hb (bm_num_lt c) g3).1
            omega
          · split
            · have a1 := bm_app_len l (bm_dig c)
              have : (bm_dig c).length ≤ 2 := by unfold bm_dig; split <;> simp
              omega
            · omega
/-- an item that can be told is put behind the line -/
theorem xs_putItem {Q : bw_W → Prop} (hX : bx_X X w) (hN : bx_N N w) (hW : bm_wfN X N) (hx : bm_wfX X) {k : Nat} {q : Nat × Nat × Nat × List Nat} {l : List Nat} (hk : k < 32) (hi : bx_it q k w) (ho : bm_itok q) (hb : bm_bad X N q = none) (hl : bx_L l w) (h1 : l.length + 18 ≤ 144) (hq : ∀ w', bw_fr [35, 36] w w' → bx_L (bm_say X N q l) w' → Q w') : bw_rv E (d + 3) mX10_putItem [.ref 35, .int (nI k)] w Q := by
  obtain ⟨s, h, b, u⟩ := q
  obtain ⟨o1, o2, o3, o4, o5⟩ := ho
  obtain ⟨i1, i2, i3, i4⟩ := hi
  dsimp only at *
  have hkin : vp_in (nI k) 32 := bm_in hk (by decide)
  have fX : ∀ {w'}, bw_fr [35, 36] w w' → bx_X X w' := fun hf => hX.fr hf (by decide)
  have fN : ∀ {w'}, bw_fr [35, 36] w w' → bx_N N w' := fun hf => hN.fr hf (by decide)
  refine wfX10_putItem ?_
  rw [nI_clamp (by omega), i1]
  refine ⟨hkin, ?_⟩
  unfold bm_say at hq
  unfold bm_bad at hb
  dsimp only at hq hb
  by_cases hs0 : s = 0
  · subst hs0
    rw [i2 rfl]
    rw [if_pos rfl] at hq
    refine ⟨fun z => absurd z (by decide), fun z => absurd z (by decide), fun z => absurd z (by decide), fun z => absurd z (by decide), fun _ => ⟨hkin, Q, xs_putWord (o2 rfl).1 hl (by omega) hq, fun w' h => h⟩, fun _ _ _ _ z => absurd rfl z⟩
  · rw [if_neg hs0] at hq hb
    have hh := o3 hs0
    cases e : bm_hol N h with
    | none => rw [e] at hb; cases hb
    | some p =>
      obtain ⟨n, c⟩ := p
      have g1 := hW.2 h n c hh e
      have g3 := (hx.2.2.1 n g1.1).2.2
      rw [e] at hq
      dsimp only at hq
      rw [i3 hs0]
      have hs : s = 1 ∨ s = 2 ∨ s = 3 ∨ s = 4 ∨ s = 5 ∨ s = 6 := by omega
      rcases hs with rfl | rfl | rfl | rfl | rfl | rfl
      · have hb4 := o4 (by omega)
        rw [if_pos rfl] at hq
        refine ⟨fun _ => ⟨_, xs_formIn (d := d) (Q := fun v w4 => bx_w (bm_form X N n b (bm_num c)) = v ∧ w = w4) hX hN hW hx hk (i3 hs0) (i4 hs0 (by decide)) hh hb4 e ⟨rfl, rfl⟩, ?_⟩, fun z => absurd z (by decide), fun z => absurd z (by decide), fun z => absurd z (by decide), fun z => absurd z (by decide), fun z => absurd rfl z⟩
        rintro _ _ ⟨rfl, rfl⟩
        exact ⟨Q, xs_putWord (bm_form_ok hW hx g1.1 hb4 (bm_num_lt c)) hl (by omega) hq, fun w' h => h⟩
      · have hb4 := o4 (by omega)
        have ok1 := bm_wd_ok hx (p := 0) (by omega) hb4 (bm_num_lt c) g3
        rw [if_neg (by decide), if_pos rfl] at hq
        refine ⟨fun z => absurd z (by decide), fun z => absurd z (by decide), fun z => absurd z (by decide), fun _ => ⟨_, xs_boundIn (d := d) (Q := fun v w4 => bx_w (bm_wd X (2 - 2) b (bm_num c) (bm_knd X n)) = v ∧ w = w4) hX hN hW hx hk (Or.inl rfl) i1 (i3 hs0) (i4 hs0 (by decide)) hh hb4 e ⟨rfl, rfl⟩, ?_⟩, fun z => absurd z (by decide), fun _ _ _ z => absurd rfl z⟩
        rintro _ _ ⟨rfl, rfl⟩
        refine ⟨_, xs_putWord (d := d) ok1 hl (by omega) (fun w' hf hl' => ?_), fun w' h => h⟩
        have hlen := bm_app_len l (bm_by (bm_wd X (2 - 2) b (bm_num c) (bm_knd X n)))
        rw [bm_by_len] at hlen
        have hl8 : (bm_wd X (2 - 2) b (bm_num c) (bm_knd X n)).length ≤ 8 := ok1.1
        refine ⟨_, xs_formIn (d := d) (Q := fun v w4 => bx_w (bm_form X N n b (bm_num c)) = v ∧ w' = w4) (fX hf) (fN hf) hW hx hk (by rw [hf.i (by decide)]; exact i3 hs0) (by rw [hf.i (by decide)]; exact i4 hs0 (by decide)) hh hb4 e ⟨rfl, rfl⟩, ?_⟩
        rintro _ _ ⟨rfl, rfl⟩
        exact ⟨Q, xs_putWord (bm_form_ok hW hx g1.1 hb4 (bm_num_lt c)) hl' (by omega) (fun w2 hf2 hl2 => hq w2 (hf.tr hf2) hl2), fun w' h => h⟩
      · have hb4 := o4 (by omega)
        have ok1 := bm_wd_ok hx (p := 1) (by omega) hb4 (bm_num_lt c) g3
        rw [if_neg (by decide), if_neg (by decide), if_pos rfl] at hq
        refine ⟨fun z => absurd z (by decide), fun z => absurd z (by decide), fun _ => ⟨_, xs_boundIn (d := d) (Q := fun v w4 => bx_w (bm_wd X (3 - 2) b (bm_num c) (bm_knd X n)) = v ∧ w = w4) hX hN hW hx hk (Or.inr rfl) i1 (i3 hs0) (i4 hs0 (by decide)) hh hb4 e ⟨rfl, rfl⟩, ?_⟩, fun z => absurd z (by decide), fun z => absurd z (by decide), fun _ _ z => absurd rfl z⟩
        rintro _ _ ⟨rfl, rfl⟩
        exact ⟨Q, xs_putWord ok1 hl (by omega) hq, fun w' h => h⟩
      · rw [if_neg (by decide), if_neg (by decide), if_neg (by decide), if_pos rfl] at hq
        refine ⟨fun z => absurd z (by decide), fun _ => ⟨hkin, xv_in hh, ?_⟩, fun z => absurd z (by decide), fun z => absurd z (by decide), fun z => absurd z (by decide), fun _ z => absurd rfl z⟩
        rw [xv_count hN hW hx hh e]
        exact ⟨Q, xs_putNumber g1.2 hl (by omega) hq, fun w' h => h⟩
      · refine ⟨fun z => absurd z (by decide), fun z => absurd z (by decide), fun z => absurd z (by decide), fun z => absurd z (by decide), fun z => absurd z (by decide), fun _ _ _ _ _ => hq w (bw_fr.rf _ _) hl⟩
      · refine ⟨fun z => absurd z (by decide), fun z => absurd z (by decide), fun z => absurd z (by decide), fun z => absurd z (by decide), fun z => absurd z (by decide), fun _ _ _ _ _ => hq w (bw_fr.rf _ _) hl⟩
theorem bm_why_none (m : Nat) : ∀ n i, bm_why X N m n i = none → ∀ j, j < n → bm_bad X N (bm_it X (8 * m + (i + j))) = none
  | 0, _, _, j, hj => absurd hj (Nat.not_lt_zero j)
  | n + 1, i, h, j, hj => by
    rw [bm_why] at h
    cases hb : bm_bad X N (bm_it X (8 * m + i)) with
    | some p => rw [hb] at h; cases h
    | none =>
      rw [hb] at h
      cases j with
      | zero => exact hb
      | succ j =>
        have := bm_why_none m n (i + 1) h j (by omega)
        rw [show i + (j + 1) = i + 1 + j by omega]
        exact this
theorem xs_bytes {Q : Int32 → bw_W → Prop} (hX : bx_X X w) (hN : bx_N N w) (hW : bm_wfN X N) (hx : bm_wfX X) {m : Nat} (hm : m < bm_nm X) (hy : bm_whyM X N m ≠ none → Q (-1) (bx_cw w (bm_whyM X N m))) (hq : bm_whyM X N m = none → ∀ w', bw_fr [35, 36] w w' → bx_L (bm_lineM X N m) w' → Q (nI (bm_lineM X N m).length) w') : bw_ri E (d + 4) mX10_bytesTold [.ref 35, .int (nI m)] w Q := by
  have hm4 := hx.2.1
  obtain ⟨hc1, hc8, hit⟩ := hx.2.2.2.2.1 m hm
  refine wfX10_bytesTold ⟨_, xs_can (d := d) (Q := fun v w3 => ((v = true → bw_G E (d + 4) mX10_bytesTold 22 [some (.ref 35), some (.int (nI m)), some (.int (nI m * 8)), some (.int (nI m * 8))] [] (sw_i w3 35 3 0) (bw_qi Q)) ∧ (v = false → Q (-1) w3))) hX hN hW hx hm ?_, fun v w3 h => h⟩
  cases hwy : bm_whyM X N m with
  | some p =>
    refine ⟨fun z => (by cases z), fun _ => ?_⟩
    have := hy (by rw [hwy]; intro z; cases z)
    rw [hwy] at this
    exact this
  | none =>
    refine ⟨fun _ => ?_, fun z => (by cases z)⟩
    have hq' := hq hwy
    have good := bm_why_none m (bm_cnt X m) 0 hwy
    rw [nl_8, pk_mul, Nat.mul_comm m 8]
    have key : ∀ n i (w1 : bw_W) (l : List Nat), i + n = bm_cnt X m → bw_fr [35, 36] w w1 → bx_L l w1 → l.length ≤ 18 * i → bm_line X N m n i l = bm_lineM X N m → bw_G E (d + 4) mX10_bytesTold 22 [some (.ref 35), some (.int (nI m)), some (.int (nI (8 * m))), some (.int (nI (8 * m + i)))] [] w1 (bw_qi Q) := by
      intro n
      induction n with
      | zero =>
        intro i w1 l h1 hf hl h2 h3
        have hX1 := hX.fr hf (by decide)
        refine wfX10_bytesTold_22 ⟨bm_in (by omega) (by decide), ?_⟩
        rw [nI_clamp (by omega), (hX1.2.2.2.2 m hm).1, nI_add]
        refine br_t (nI_le (by omega) (by omega)) ?_
        have h3' : l = bm_lineM X N m := h3
        rw [hl.1, h3']
        exact hq' w1 hf (h3' ▸ hl)
      | succ n ih =>
        intro i w1 l h1 hf hl h2 h3
        have hX1 := hX.fr hf (by decide)
        have hN1 := hN.fr hf (by decide)
        have hlt : i < bm_cnt X m := by omega
        refine wfX10_bytesTold_22 ⟨bm_in (by omega) (by decide), ?_⟩
        rw [nI_clamp (by omega), (hX1.2.2.2.2 m hm).1, nI_add]
        have gd := good i (by omega)
        rw [Nat.zero_add] at gd
        refine br_f (nI_ge (by omega) (by omega)) ⟨_, xs_putItem (d := d) hX1 hN1 hW hx (by omega) ((hX1.2.2.2.2 m hm).2 i hlt) (hit i hlt) gd hl (by omega) (fun w' hf2 hl2 => ?_), fun w4 h => h⟩
        rw [nI_1, Nat.add_assoc]
        have hln := bm_say_len hW hx (hit i hlt) l
        exact ih (i + 1) w' _ (by omega) (hf.tr hf2) hl2 (by omega) h3
    exact key (bm_cnt X m) 0 _ [] (by omega) ((bw_fr.rf _ w).si (by decide)) ⟨rfl, fun i hi => absurd hi (Nat.not_lt_zero i)⟩ (by simp) rfl
end XTELL3
