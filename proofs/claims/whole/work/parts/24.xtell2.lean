section XTELL2
variable {E : bw_E} {d : Nat} {w : bw_W} {X : bm_X} {N : bm_N}
def bx_cw (w : bw_W) : Option (Nat × Nat × Nat) → bw_W
  | none => w
  | some (i, h, y) => sw_i (sw_i (sw_i w 35 5 (nI h)) 35 6 (nI y)) 35 4 (nI i)
theorem bx_cw_fr (w : bw_W) (o : Option (Nat × Nat × Nat)) : bw_fr [35] w (bx_cw w o) := by
  cases o with
  | none => exact bw_fr.rf _ _
  | some p => exact (((bw_fr.rf [35] w).si (by decide)).si (by decide)).si (by decide)
theorem xs_can {Q : Bool → bw_W → Prop} (hX : bx_X X w) (hN : bx_N N w) (hW : bm_wfN X N) (hx : bm_wfX X) {m : Nat} (hm : m < bm_nm X) (hq : Q (bm_whyM X N m).isNone (bx_cw w (bm_whyM X N m))) : bw_rb E (d + 3) mX10_canTell [.ref 35, .int (nI m)] w Q := by
  have hm4 := hx.2.1
  obtain ⟨hc1, hc8, hit⟩ := hx.2.2.2.2.1 m hm
  obtain ⟨g25, git⟩ := hX.2.2.2.2 m hm
  have key : ∀ n i, i + n = bm_cnt X m → Q (bm_why X N m n i).isNone (bx_cw w (bm_why X N m n i)) → bw_G E (d + 3) mX10_canTell 7 [some (.ref 35), some (.int (nI m)), some (.int (nI (8 * m))), some (.int (nI i))] [] w (bw_qb Q) := by
    intro n
    induction n with
    | zero =>
      intro i h1 h2
      refine wfX10_canTell_7 ⟨bm_in (by omega) (by decide), ?_⟩
      rw [nI_clamp (by omega), g25]
      exact br_t (nI_le (by omega) (by omega)) h2
    | succ n ih =>
      intro i h1 h2
      have hlt : i < bm_cnt X m := by omega
      refine wfX10_canTell_7 ⟨bm_in (by omega) (by decide), ?_⟩
      rw [nI_clamp (by omega), g25, nI_add]
      refine br_f (nI_ge hlt (by omega)) ⟨_, xs_item (Q := fun v w4 => ((v = true → bw_G E (d + 3) mX10_canTell 7 [some (.ref 35), some (.int (nI m)), some (.int (nI (8 * m))), some (.int (nI i + 1))] [] w4 (bw_qb Q)) ∧ (v = false → Q false (sw_i w4 35 4 (nI i))))) hX hN hW hx (by omega) (git i hlt) (hit i hlt) ?_, fun v w4 h => h⟩
      rw [bm_why] at h2
      cases hb : bm_bad X N (bm_it X (8 * m + i)) with
      | none =>
        rw [hb] at h2
        refine ⟨fun _ => ?_, fun q => absurd q (by decide)⟩
        rw [nI_1]
        exact ih (i + 1) (by omega) h2
      | some p =>
        rw [hb] at h2
        exact ⟨fun q => absurd q (by decide), fun _ => h2⟩
  refine wfX10_canTell ?_
  rw [nl_8, pk_mul, Nat.mul_comm m 8]
  exact key (bm_cnt X m) 0 (by omega) hq
theorem bm_bits_lt (X : bm_X) (N : bm_N) : ∀ n, bm_bits X N n < 2 ^ n
  | 0 => Nat.one_pos
  | n + 1 => by
    have := bm_bits_lt X N n
    rw [bm_bits, Nat.pow_succ]
    split <;> omega
theorem xs_bits {Q : Int32 → bw_W → Prop} (hX : bx_X X w) (hN : bx_N N w) (hW : bm_wfN X N) (hx : bm_wfX X) (hq : ∀ w', bw_fr [35] w w' → Q (nI (bm_bits X N (bm_nm X))) w') : bw_ri E (d + 4) mX10_tellableBits [.ref 35] w Q := by
  have hm4 := hx.2.1
  have sh : ∀ i, i < 4 → (1 : Int32) <<< (nI i &&& 31) = nI (2 ^ i) := by decide
  have key : ∀ n i w1, i + n = bm_nm X → bw_fr [35] w w1 → bw_G E (d + 4) mX10_tellableBits 4 [some (.ref 35), some (.int (nI (bm_bits X N i))), some (.int (nI i))] [] w1 (bw_qi Q) := by
    intro n
    induction n with
    | zero =>
      intro i w1 h1 hf
      have e : i = bm_nm X := by omega
      subst e
      refine wfX10_tellableBits_4 ?_
      rw [hf.i (by decide), hX.2.1]
      exact br_t (Int32.le_refl _) (hq w1 hf)
    | succ n ih =>
      intro i w1 h1 hf
      have hX1 := hX.fr hf (by decide)
      have hN1 := hN.fr hf (by decide)
      refine wfX10_tellableBits_4 ?_
      rw [hX1.2.1]
      refine br_f (nI_ge (by omega) (by omega)) ⟨_, xs_can (Q := fun v w3 => ((v = false → bw_G E (d + 4) mX10_tellableBits 4 [some (.ref 35), some (.int (nI (bm_bits X N i))), some (.int (nI i + 1))] [] w3 (bw_qi Q)) ∧ (v = true → bw_G E (d + 4) mX10_tellableBits 4 [some (.ref 35), some (.int (nI (bm_bits X N i) ||| (1 <<< (nI i &&& 31)))), some (.int (nI i + 1))] [] w3 (bw_qi Q)))) hX1 hN1 hW hx (by omega) ?_, fun v w3 h => h⟩
      have hf2 := hf.tr (bx_cw_fr w1 (bm_whyM X N i))
      have hlt := bm_bits_lt X N i
      rw [nI_1, sh i (by omega)]
      cases hy : bm_whyM X N i with
      | none =>
        refine ⟨fun q => absurd q (by decide), fun _ => ?_⟩
        have e : nI (bm_bits X N i) ||| nI (2 ^ i) = nI (bm_bits X N (i + 1)) := by
          rw [bm_bits, hy, if_pos rfl, Int32.or_comm]
          have := fa_or_sum (a := bm_bits X N i) (k := i) 1 hlt
          rw [Nat.mul_one] at this
          rw [this, Nat.add_comm]
        rw [e]
        rw [hy] at hf2
        exact ih (i + 1) _ (by omega) hf2
      | some p =>
        refine ⟨fun _ => ?_, fun q => absurd q (by intro z; cases z)⟩
        have e : bm_bits X N i = bm_bits X N (i + 1) := by
          rw [bm_bits, hy, if_neg (by intro q; cases q)]; rfl
        rw [e]
        rw [hy] at hf2
        exact ih (i + 1) _ (by omega) hf2
  exact wfX10_tellableBits (key (bm_nm X) 0 w (by omega) (bw_fr.rf _ _))
def bm_pop (n : Nat) : Nat := n % 2 + n / 2 % 2 + n / 4 % 2 + n / 8 % 2
theorem bm_pop_bc : ∀ n, n < 16 → vJ6_bitCount_0f7a4 (nI n) = nI (bm_pop n) := by decide +kernel
theorem bm_pop_many (X : bm_X) (N : bm_N) {n : Nat} (h : n ≤ 4) : bm_pop (bm_bits X N n) = bm_many X N n := by
  have : n = 0 ∨ n = 1 ∨ n = 2 ∨ n = 3 ∨ n = 4 := by omega
  rcases this with rfl | rfl | rfl | rfl | rfl <;> simp only [bm_bits, bm_many] <;> by_cases h0 : bm_whyM X N 0 = none <;> by_cases h1 : bm_whyM X N 1 = none <;> by_cases h2 : bm_whyM X N 2 = none <;> by_cases h3 : bm_whyM X N 3 = none <;> simp [h0, h1, h2, h3, bm_pop]
theorem xs_tellable {Q : Int32 → bw_W → Prop} (hX : bx_X X w) (hN : bx_N N w) (hW : bm_wfN X N) (hx : bm_wfX X) (hq : ∀ w', bw_fr [35] w w' → Q (nI (bm_many X N (bm_nm X))) w') : bw_ri E (d + 5) mX11_tellable [.ref 0] w Q := by
  refine wfX11_tellable ⟨fun v w3 => nI (bm_bits X N (bm_nm X)) = v ∧ bw_fr [35] w w3, xs_bits hX hN hW hx (fun w' hf => ⟨rfl, hf⟩), ?_⟩
  rintro _ w3 ⟨rfl, hf⟩
  have hlt := bm_bits_lt X N (bm_nm X)
  have : 2 ^ bm_nm X ≤ 2 ^ 4 := Nat.pow_le_pow_right (by decide) hx.2.1
  rw [bm_pop_bc _ (by omega), bm_pop_many X N hx.2.1]
  exact hq w3 hf
/-! the line -/
def bx_L (l : List Nat) (w : bw_W) : Prop := gw_i w 35 3 = nI l.length ∧ ∀ i, i < l.length → gw_i w 36 i = nI (l.getD i 0)
theorem bm_ch : ∀ b, b < 256 → vp_nar .char (((nI b).toUInt32 % 65536).toInt32) = nI b := by decide +kernel
theorem xs_putByte {Q : bw_W → Prop} {l : List Nat} {b : Nat} (hl : bx_L l w) (h1 : l.length < 144) (hb : b < 256) (hq : ∀ w', bw_fr [35, 36] w w' → bx_L (l ++ [b]) w' → Q w') : bw_rv E (d + 0) mX10_putByte [.ref 35, .int (nI b)] w Q := by
  refine wfX10_putByte ?_
  rw [hl.1, nI_clamp (by omega), bm_ch b hb, nI_1]
  refine br_f (nI_ge (a := l.length) (b := 144) h1 (by decide)) ⟨bm_in h1 (by decide), hq _ (((bw_fr.rf _ w).si (by decide)).si (by decide)) ⟨?_, fun i hi => ?_⟩⟩
  · rw [gs_ii, if_pos ⟨rfl, rfl⟩, List.length_append]; rfl
  · rw [gs_ii, if_neg (by intro q; exact absurd q.1 (by decide)), gs_ii]
    rw [List.length_append, List.length_singleton] at hi
    by_cases e : i = l.length
    · subst e
      rw [if_pos ⟨rfl, rfl⟩, List.getD_eq_getElem?_getD, List.getElem?_append_right (Nat.le_refl _)]
      simp
    · rw [if_neg (fun q => e q.2), hl.2 i (by omega), List.getD_eq_getElem?_getD, List.getD_eq_getElem?_getD, List.getElem?_append_left (by omega)]
theorem xs_blank {Q : bw_W → Prop} {l : List Nat} (hl : bx_L l w) (h1 : l.length < 144) (hq : ∀ w', bw_fr [35, 36] w w' → bx_L (if l = [] then l else l ++ [32]) w' → Q w') : bw_rv E (d + 1) mX10_putBlankBetween [.ref 35] w Q := by
  refine wfX10_putBlankBetween ?_
  rw [hl.1]
  cases l with
  | nil => exact br_t (by decide) (hq w (bw_fr.rf _ _) hl)
  | cons x l =>
    refine br_f (nI_ge (a := 0) (b := (x :: l).length) (by simp) (by omega)) ⟨_, xs_putByte (b := 32) hl h1 (by decide) (fun w' hf hl' => hq w' hf (by rw [if_neg (by simp)]; exact hl')), fun w3 h => h⟩
theorem xs_letters {Q : bw_W → Prop} {u : List Nat} (hu : bm_ok u) : ∀ (n i : Nat) (w : bw_W) (l : List Nat), i + n = u.length → bx_L l w → l.length + n ≤ 144 → (∀ w', bw_fr [35, 36] w w' → bx_L (l ++ (bm_by u).drop i) w' → Q w') → bw_G E (d + 2) mX10_putWord 19 [some (.ref 35), some (.long (bx_w u)), none, some (.int (nI u.length)), some (.int (nI i))] [] w (bw_qv Q) := by
  have h8 := hu.1
  intro n
  induction n with
  | zero =>
    intro i w l h1 hl h2 hq
    refine wfX10_putWord_19 (br_t (nI_le (by omega) (by omega)) (hq w (bw_fr.rf _ _) ?_))
    rw [List.drop_eq_nil_of_le (by unfold bm_by; rw [List.length_map]; omega), List.append_nil]
    exact hl
  | succ n ih =>
    intro i w l h1 hl h2 hq
    have hlt : i < u.length := by omega
    have hx := hu.2 (u.getD i 0) (by rw [List.getD_eq_getElem?_getD, List.getElem?_eq_getElem hlt]; exact List.getElem_mem hlt)
    refine wfX10_putWord_19 (br_f (nI_ge hlt (by omega)) ?_)
    rw [bx_letter hu (by omega), if_pos hlt, nI_1]
    refine ⟨_, xs_putByte (d := d + 1) (b := 96 + u.getD i 0) hl (by omega) (by omega) (fun w' hf hl' => ?_), fun w3 h => h⟩
    refine ih (i + 1) w' _ (by omega) hl' (by rw [List.length_append, List.length_singleton]; omega) (fun w2 hf2 hl2 => hq w2 (hf.tr hf2) ?_)
    have e : (bm_by u).drop i = (96 + u.getD i 0) :: (bm_by u).drop (i + 1) := by
      have e0 : u.drop i = u.getD i 0 :: u.drop (i + 1) := by
        rw [List.drop_eq_getElem_cons hlt, List.getD_eq_getElem?_getD, List.getElem?_eq_getElem hlt]; rfl
      unfold bm_by
      rw [← List.map_drop, e0, List.map_cons, List.map_drop]
    rw [e]
    rw [List.append_assoc] at hl2
    exact hl2
theorem xs_putWord {Q : bw_W → Prop} {l u : List Nat} (hu : bm_ok u) (hl : bx_L l w) (h1 : l.length + 9 ≤ 144) (hq : ∀ w', bw_fr [35, 36] w w' → bx_L (bm_app l (bm_by u)) w' → Q w') : bw_rv E (d + 2) mX10_putWord [.ref 35, .long (bx_w u)] w Q := by
  have h8 := hu.1
  refine wfX10_putWord ?_
  by_cases he : u = []
  · subst he
    refine br_nf rfl (hq w (bw_fr.rf _ _) ?_)
    exact hl
  · have hby : bm_by u ≠ [] := by unfold bm_by; intro q; exact he (List.map_eq_nil_iff.mp q)
    refine br_nt (fun q => he ((bx_w0 hu).mp q)) ⟨_, xs_blank (d := d) hl (by omega) (fun w' hf hl' => ?_), fun w3 h => h⟩
    refine ⟨_, bx_lettersOf (d := d) (Q := fun v w6 => bw_G E (d + 2) mX10_putWord 19 [some (.ref 35), some (.long (bx_w u)), none, some (.int v), some (.int 0)] [] w6 (bw_qv Q)) hu ?_, fun v w6 h => h⟩
    refine xs_letters hu u.length 0 w' _ (by omega) hl' ?_ (fun w2 hf2 hl2 => hq w2 (hf.tr hf2) ?_)
    · split
      · omega
      · rw [List.length_append, List.length_singleton]; omega
    · rw [List.drop_zero] at hl2
      unfold bm_app
      rw [if_neg hby]
      by_cases e2 : l = []
      · rw [if_pos e2]; rw [if_pos e2, e2, List.nil_append] at hl2; exact hl2
      · rw [if_neg e2]; rw [if_neg e2, List.append_assoc] at hl2; exact hl2
theorem xs_putNumber {Q : bw_W → Prop} {l : List Nat} {c : Nat} (hc : c ≤ 99) (hl : bx_L l w) (h1 : l.length + 9 ≤ 144) (hq : ∀ w', bw_fr [35, 36] w w' → bx_L (bm_app l (bm_dig c)) w' → Q w') : bw_rv E (d + 2) mX10_putNumber [.ref 35, .int (nI c)] w Q := by
  have happ : bm_app l (bm_dig c) = (if l = [] then l else l ++ [32]) ++ bm_dig c := by
    unfold bm_app
    have : bm_dig c ≠ [] := by unfold bm_dig; split <;> simp
    rw [if_neg this]
    by_cases e : l = []
    · rw [if_pos e, if_pos e, e]; rfl
    · rw [if_neg e, if_neg e, List.append_assoc]; rfl
  have hlen : (if l = [] then l else l ++ [32]).length ≤ l.length + 1 := by
    split
    · omega
    · rw [List.length_append]; exact Nat.le_refl _
  refine wfX10_putNumber ⟨_, xs_blank (d := d) hl (by omega) (fun w' hf hl' => ?_), fun w3 h => h⟩
  rw [show (10 : Int32) = nI 10 from rfl, pk_rem (by omega) (by decide) (by decide), pk_div (by omega) (by decide) (by decide), nl_48, nI_add, nI_add]
  refine ⟨fun q => ?_, fun q => ?_⟩
  · have q2 := (nI_ltI (by omega) (by decide)).mp q
    refine ⟨_, xs_putByte (d := d + 1) (b := 48 + c % 10) hl' (by omega) (by omega) (fun w2 hf2 hl2 => ?_), fun w3 h => h⟩
    refine hq w2 (hf.tr hf2) ?_
    have hdg : bm_dig c = [48 + c % 10] := by unfold bm_dig; rw [if_neg (by omega)]
    rw [happ, hdg]
    exact hl2
  · have q2 : ¬ c < 10 := fun z => q ((nI_ltI (by omega) (by decide)).mpr z)
    refine ⟨_, xs_putByte (d := d + 1) (b := 48 + c / 10) hl' (by omega) (by omega) (fun w2 hf2 hl2 => ?_), fun w3 h => h⟩
    refine ⟨_, xs_putByte (d := d + 1) (b := 48 + c % 10) hl2 (by rw [List.length_append, List.length_singleton]; omega) (by omega) (fun w3 hf3 hl3 => ?_), fun w3 h => h⟩
    refine hq w3 ((hf.tr hf2).tr hf3) ?_
    have hdg : bm_dig c = [48 + c / 10, 48 + c % 10] := by unfold bm_dig; rw [if_pos (by omega)]
    rw [happ, hdg]
    rw [List.append_assoc] at hl3
    exact hl3
end XTELL2
