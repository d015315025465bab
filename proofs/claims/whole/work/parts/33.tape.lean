/-! the tape -/
/-- the j-th byte of a number, the highest first -/
def bm_byte (a : Int32) (j : Nat) : Nat := a.toBitVec.toNat / 2 ^ (24 - 8 * j) % 256
theorem bm_byte_lt (a : Int32) (j : Nat) : bm_byte a j < 256 := Nat.mod_lt _ (by decide)
/-- bytes of a number from the j-th on, n of them, without those of 0 -/
def bm_bs (a : Int32) : Nat → Nat → List Nat
  | 0, _ => []
  | n + 1, j => if bm_byte a j = 0 then bm_bs a n (j + 1) else bm_byte a j :: bm_bs a n (j + 1)
def bm_fed (a b c d e : Int32) : List Nat := bm_bs a 4 0 ++ (bm_bs b 4 0 ++ (bm_bs c 4 0 ++ (bm_bs d 4 0 ++ bm_bs e 4 0)))
theorem bm_nI_of {v : BitVec 32} {n : Nat} (h : v.toNat = n) (hn : n < 2 ^ 31) : Int32.ofBitVec v = nI n := by
  apply Int32.toBitVec_inj.mp
  apply BitVec.eq_of_toNat_eq
  show v.toNat = (BitVec.ofNat 32 n).toNat
  rw [h, BitVec.toNat_ofNat, Nat.mod_eq_of_lt (by omega)]
theorem bm_ub {a : Int32} {j : Nat} (hj : j < 4) : ((a.toUInt32 >>> ((nI (24 - 8 * j)).toUInt32 &&& Int32.toUInt32 31)).toInt32) &&& 255 = nI (bm_byte a j) := by
  have hs : ∀ j, j < 4 → ((nI (24 - 8 * j)).toUInt32 &&& Int32.toUInt32 31) = UInt32.ofNat (24 - 8 * j) := by decide
  rw [hs j hj]
  have := bm_byte_lt a j
  refine bm_nI_of (v := ((a.toUInt32 >>> UInt32.ofNat (24 - 8 * j)).toInt32 &&& 255).toBitVec) ?_ (by omega)
  show ((a.toUInt32 >>> UInt32.ofNat (24 - 8 * j)).toBitVec &&& (255 : BitVec 32)).toNat = _
  rw [BitVec.toNat_and]
  have e1 : (a.toUInt32 >>> UInt32.ofNat (24 - 8 * j)).toBitVec.toNat = a.toBitVec.toNat / 2 ^ (24 - 8 * j) := by
    show (a.toUInt32 >>> UInt32.ofNat (24 - 8 * j)).toNat = _
    rw [UInt32.toNat_shiftRight, UInt32.toNat_ofNat', Nat.mod_eq_of_lt (show 24 - 8 * j < 2 ^ 32 by omega), Nat.mod_eq_of_lt (show 24 - 8 * j < 32 by omega), Nat.shiftRight_eq_div_pow]
    rfl
  rw [e1]
  show _ &&& 255 = _
  rw [show 255 = 2 ^ 8 - 1 from rfl, Nat.and_two_pow_sub_one_eq_mod]
  rfl
theorem bm_sb2 {a : Int32} {j : Nat} (hj : j < 4) : (a >>> (nI (24 - 8 * j) &&& 31)) &&& 255 = nI (bm_byte a j) := by
  have hs : ∀ j, j < 4 → ((nI (24 - 8 * j) &&& 31).toBitVec.smod 32).toNat = 24 - 8 * j := by decide
  have h := pk_shr a (nI (24 - 8 * j) &&& 31) _ (hs j hj)
  rw [pk_and _ (m := 255) 8 (by decide)]
  congr 1
  unfold bm_byte
  have e1 : (a >>> (nI (24 - 8 * j) &&& 31)).toInt = (a >>> (nI (24 - 8 * j) &&& 31)).toBitVec.toInt := rfl
  have e2 : a.toInt = a.toBitVec.toInt := rfl
  rw [e1, e2, Int.shiftRight_eq_div_pow, BitVec.toInt_eq_toNat_cond, BitVec.toInt_eq_toNat_cond] at h
  generalize (a >>> (nI (24 - 8 * j) &&& 31)).toBitVec.toNat = x at *
  have hx := a.toBitVec.isLt
  generalize a.toBitVec.toNat = y at *
  clear e1 e2
  rcases (by omega : j = 0 ∨ j = 1 ∨ j = 2 ∨ j = 3) with rfl | rfl | rfl | rfl <;> simp at h ⊢ <;> split at h <;> split at h <;> omega
theorem bm_byte_pos {a : Int32} {j : Nat} : nI (bm_byte a j) = 0 ↔ bm_byte a j = 0 := nI_eq (b := 0) (by have := bm_byte_lt a j; omega) (by decide)
theorem bm_bs_ok (a : Int32) : ∀ n j, ∀ x ∈ bm_bs a n j, 1 ≤ x ∧ x < 256
  | 0, _ => by intro x hx; cases hx
  | n + 1, j => by
    intro x hx
    rw [bm_bs] at hx
    split at hx
    · exact bm_bs_ok a n (j + 1) x hx
    · rcases List.mem_cons.mp hx with rfl | hx
      · have := bm_byte_lt a j; omega
      · exact bm_bs_ok a n (j + 1) x hx
theorem bm_bs_len (a : Int32) : ∀ n j, (bm_bs a n j).length ≤ n
  | 0, _ => Nat.le_refl _
  | n + 1, j => by
    have := bm_bs_len a n (j + 1)
    rw [bm_bs]
    split
    · omega
    · rw [List.length_cons]; omega
/-- the class's tape, the reference's -/
def bx_T (t : List Nat) (w : bw_W) : Prop := gw_i w 1 1 = nI t.length ∧ ∀ i, i < t.length → gw_i w 2 i = nI (t.getD i 0)
def by_T (t : List Nat) (w : bw_W) : Prop := gw_i w 50 2 = nI t.length ∧ ∀ i, i < t.length → gw_i w 51 i = nI (t.getD i 0)
def bm_wfT (t : List Nat) : Prop := t.length ≤ 480 ∧ ∀ x ∈ t, 1 ≤ x ∧ x < 256
def bm_s8 (j : Nat) : Int32 := if j = 4 then -8 else nI (24 - 8 * j)
theorem bm_s8_lt : ∀ j, j < 4 → bm_s8 j = nI (24 - 8 * j) := by decide
theorem bm_s8_st : ∀ j, j < 4 → nI (24 - 8 * j) + (-8) = bm_s8 (j + 1) := by decide
theorem bm_s8_ge : ∀ j, j < 4 → ¬ nI (24 - 8 * j) < 0 := by decide
theorem bm_gd {l : List Nat} {b i : Nat} : (l ++ [b]).getD i 0 = if i < l.length then l.getD i 0 else if i = l.length then b else 0 := by
  rw [List.getD_eq_getElem?_getD, List.getD_eq_getElem?_getD]
  split
  · rename_i h; rw [List.getElem?_append_left h]
  · rename_i h
    rw [List.getElem?_append_right (by omega)]
    split
    · rename_i e; subst e; simp
    · rename_i e
      obtain ⟨k, hk⟩ : ∃ k, i - l.length = k + 1 := ⟨i - l.length - 1, by omega⟩
      rw [hk]; rfl
theorem nI_z {n : Nat} (h : n < 2 ^ 31) : nI n = 0 ↔ n = 0 := nI_eq (b := 0) h (by decide)
theorem nl_480 : (480 : Int32) = nI 480 := rfl
theorem nl_12 : (12 : Int32) = nI 12 := rfl
theorem nl_16 : (16 : Int32) = nI 16 := rfl
section TAPE
variable {E : bw_E} {d : Nat} {w : bw_W}
theorem xs_bytesIn {Q : Int32 → bw_W → Prop} {a : Int32} (hq : Q (nI (bm_bs a 4 0).length) w) : bw_ri E (d + 0) mX9_bytesIn [.int a] w Q := by
  have key : ∀ n j c, j + n = 4 → c + (bm_bs a n j).length = (bm_bs a 4 0).length → bw_G E (d + 0) mX9_bytesIn 5 [some (.int a), some (.int (nI c)), some (.int (bm_s8 j))] [] w (bw_qi Q) := by
    intro n
    induction n with
    | zero =>
      intro j c hj hc
      have e : j = 4 := by omega
      subst e
      rw [bm_bs, List.length_nil, Nat.add_zero] at hc
      subst hc
      exact wfX9_bytesIn_5 (br_t (by decide) hq)
    | succ n ih =>
      intro j c hj hc
      rw [bm_s8_lt j (by omega)]
      refine wfX9_bytesIn_5 (br_f (bm_s8_ge j (by omega)) ?_)
      rw [bm_ub (by omega), bm_byte_pos, nI_1, bm_s8_st j (by omega)]
      rw [bm_bs] at hc
      refine ⟨fun z => ?_, fun z => ?_⟩
      · rw [if_pos z] at hc; exact ih (j + 1) c (by omega) hc
      · rw [if_neg z, List.length_cons] at hc; exact ih (j + 1) (c + 1) (by omega) (by omega)
  exact wfX9_bytesIn (key 4 0 0 (by omega) (by omega))
theorem bx_T_add {t : List Nat} {b : Nat} (hl : bx_T t w) : bx_T (t ++ [b]) (sw_i (sw_i w 2 t.length (nI b)) 1 1 (nI (t.length + 1))) := by
  refine ⟨by rw [gs_ii, if_pos ⟨rfl, rfl⟩, List.length_append]; rfl, fun i hi => ?_⟩
  rw [List.length_append, List.length_singleton] at hi
  rw [gs_ii, if_neg (by omega), gs_ii, bm_gd]
  by_cases e : i = t.length
  · rw [if_pos ⟨rfl, e⟩, if_neg (by omega), if_pos e]
  · rw [if_neg (by omega), if_pos (by omega)]; exact hl.2 i (by omega)
theorem by_T_add {t : List Nat} {b : Nat} (hl : by_T t w) : by_T (t ++ [b]) (sw_i (sw_i w 51 t.length (nI b)) 50 2 (nI (t.length + 1))) := by
  refine ⟨by rw [gs_ii, if_pos ⟨rfl, rfl⟩, List.length_append]; rfl, fun i hi => ?_⟩
  rw [List.length_append, List.length_singleton] at hi
  rw [gs_ii, if_neg (by omega), gs_ii, bm_gd]
  by_cases e : i = t.length
  · rw [if_pos ⟨rfl, e⟩, if_neg (by omega), if_pos e]
  · rw [if_neg (by omega), if_pos (by omega)]; exact hl.2 i (by omega)
theorem xs_add {Q : bw_W → Prop} {a : Int32} {t : List Nat} (hT : bx_T t w) (hl : t.length + (bm_bs a 4 0).length ≤ 480) (hq : ∀ w', bw_fr [1, 2] w w' → bx_T (t ++ bm_bs a 4 0) w' → Q w') : bw_rv E (d + 0) mX9_add [.ref 1, .int a] w Q := by
  have key : ∀ n j (u : List Nat) (w' : bw_W), j + n = 4 → u ++ bm_bs a n j = t ++ bm_bs a 4 0 → bw_fr [1, 2] w w' → bx_T u w' → bw_G E (d + 0) mX9_add 3 [some (.ref 1), some (.int a), some (.int (bm_s8 j)), none] [] w' (bw_qv Q) := by
    intro n
    induction n with
    | zero =>
      intro j u w' hj hc hf hu
      have e : j = 4 := by omega
      subst e
      rw [bm_bs, List.append_nil] at hc
      subst hc
      exact wfX9_add_3 (br_t (by decide) (hq w' hf hu))
    | succ n ih =>
      intro j u w' hj hc hf hu
      rw [bm_s8_lt j (by omega)]
      refine wfX9_add_3 (br_f (bm_s8_ge j (by omega)) ?_)
      rw [bm_ub (by omega), bm_byte_pos, bm_s8_st j (by omega), hu.1]
      have hlen := congrArg List.length hc
      rw [List.length_append, List.length_append] at hlen
      rw [bm_bs] at hc hlen
      refine ⟨fun z => ?_, fun z => ?_⟩
      · rw [if_pos z] at hc; exact ih (j + 1) u w' (by omega) hc hf hu
      · rw [if_neg z] at hc hlen
        rw [List.length_cons] at hlen
        have hb := bm_byte_lt a j
        refine br_f (nI_ge (a := u.length) (b := 480) (by omega) (by decide)) ⟨bm_in (by omega) (by decide), ?_⟩
        rw [nI_clamp (by omega), nI_1, bm_ch _ hb]
        exact ih (j + 1) (u ++ [bm_byte a j]) _ (by omega) (by rw [List.append_assoc]; exact hc) ((hf.si (by decide)).si (by decide)) (bx_T_add hu)
  exact wfX9_add (key 4 0 t w (by omega) rfl (bw_fr.rf _ _) hT)
theorem bm_fed_ok (a b c d e : Int32) : ∀ x ∈ bm_fed a b c d e, 1 ≤ x ∧ x < 256 := by
  intro x hx
  unfold bm_fed at hx
  rcases List.mem_append.mp hx with h | hx
  · exact bm_bs_ok _ _ _ x h
  rcases List.mem_append.mp hx with h | hx
  · exact bm_bs_ok _ _ _ x h
  rcases List.mem_append.mp hx with h | hx
  · exact bm_bs_ok _ _ _ x h
  rcases List.mem_append.mp hx with h | hx
  · exact bm_bs_ok _ _ _ x h
  exact bm_bs_ok _ _ _ x hx
/-- what feed answers, the tape then -/
def br_feed (t : List Nat) (a b c d e : Int32) : Int32 := if t.length + (bm_fed a b c d e).length ≤ 480 then nI (t.length + (bm_fed a b c d e).length) else -1
def bt_feed (t : List Nat) (a b c d e : Int32) : List Nat := if t.length + (bm_fed a b c d e).length ≤ 480 then t ++ bm_fed a b c d e else t
theorem bm_wf_feed {t : List Nat} (h : bm_wfT t) (a b c d e : Int32) : bm_wfT (bt_feed t a b c d e) := by
  unfold bt_feed
  split
  · refine ⟨by rw [List.length_append]; assumption, fun x hx => ?_⟩
    rcases List.mem_append.mp hx with q | q
    · exact h.2 x q
    · exact bm_fed_ok _ _ _ _ _ x q
  · exact h
theorem qx_feed {Q : Int32 → bw_W → Prop} {t : List Nat} {a b c d' e : Int32} (hT : bx_T t w) (ht : bm_wfT t) (hq : ∀ w', bw_fr [1, 2] w w' → bx_T (bt_feed t a b c d' e) w' → Q (br_feed t a b c d' e) w') : bw_ri E (d + 1) mX11_feed [.ref 0, .int a, .int b, .int c, .int d', .int e] w Q := by
  refine wfX11_feed ?_
  have B : ∀ x : Int32, bw_ri E (d + 0) mX9_bytesIn [.int x] w (fun v w3 => nI (bm_bs x 4 0).length = v ∧ w = w3) := fun x => xs_bytesIn ⟨rfl, rfl⟩
  refine ⟨_, B a, ?_⟩
  rintro _ _ ⟨rfl, rfl⟩
  refine ⟨_, B b, ?_⟩
  rintro _ _ ⟨rfl, rfl⟩
  refine ⟨_, B c, ?_⟩
  rintro _ _ ⟨rfl, rfl⟩
  refine ⟨_, B d', ?_⟩
  rintro _ _ ⟨rfl, rfl⟩
  refine ⟨_, B e, ?_⟩
  rintro _ _ ⟨rfl, rfl⟩
  have hl : (bm_fed a b c d' e).length = (bm_bs a 4 0).length + (bm_bs b 4 0).length + (bm_bs c 4 0).length + (bm_bs d' 4 0).length + (bm_bs e 4 0).length := by
    unfold bm_fed; simp only [List.length_append]; omega
  have h4 : ∀ x, (bm_bs x 4 0).length ≤ 4 := fun x => bm_bs_len x 4 0
  have := h4 a; have := h4 b; have := h4 c; have := h4 d'; have := h4 e
  have ht1 := ht.1
  rw [hT.1, nI_add, nI_add, nI_add, nI_add, nI_add, ← hl, nl_480, nI_leI (by omega) (by decide)]
  unfold bt_feed br_feed at hq
  refine ⟨fun z => ?_, fun z => ?_⟩
  · rw [if_pos z, if_pos z] at hq
    refine ⟨fun w' => bw_fr [1, 2] w w' ∧ bx_T (t ++ bm_bs a 4 0) w', xs_add hT (by omega) (fun w' f h => ⟨f, h⟩), fun w1 hw1 => ?_⟩
    refine ⟨fun w' => bw_fr [1, 2] w w' ∧ bx_T (t ++ bm_bs a 4 0 ++ bm_bs b 4 0) w', xs_add hw1.2 (by rw [List.length_append]; omega) (fun w' f h => ⟨hw1.1.tr f, h⟩), fun w2 hw2 => ?_⟩
    refine ⟨fun w' => bw_fr [1, 2] w w' ∧ bx_T (t ++ bm_bs a 4 0 ++ bm_bs b 4 0 ++ bm_bs c 4 0) w', xs_add hw2.2 (by rw [List.length_append, List.length_append]; omega) (fun w' f h => ⟨hw2.1.tr f, h⟩), fun w3 hw3 => ?_⟩
    refine ⟨fun w' => bw_fr [1, 2] w w' ∧ bx_T (t ++ bm_bs a 4 0 ++ bm_bs b 4 0 ++ bm_bs c 4 0 ++ bm_bs d' 4 0) w', xs_add hw3.2 (by rw [List.length_append, List.length_append, List.length_append]; omega) (fun w' f h => ⟨hw3.1.tr f, h⟩), fun w4 hw4 => ?_⟩
    refine ⟨fun w' => bw_fr [1, 2] w w' ∧ bx_T (t ++ bm_bs a 4 0 ++ bm_bs b 4 0 ++ bm_bs c 4 0 ++ bm_bs d' 4 0 ++ bm_bs e 4 0) w', xs_add hw4.2 (by rw [List.length_append, List.length_append, List.length_append, List.length_append]; omega) (fun w' f h => ⟨hw4.1.tr f, h⟩), fun w5 hw5 => ?_⟩
    have e5 : t ++ bm_bs a 4 0 ++ bm_bs b 4 0 ++ bm_bs c 4 0 ++ bm_bs d' 4 0 ++ bm_bs e 4 0 = t ++ bm_fed a b c d' e := by unfold bm_fed; simp only [List.append_assoc]
    rw [e5] at hw5
    rw [hw5.2.1, List.length_append]
    exact hq w5 hw5.1 hw5.2
  · rw [if_neg z, if_neg z] at hq
    exact hq w (bw_fr.rf _ _) hT
def bm_nz (f : Nat → Nat) : Nat → Nat → List Nat
  | 0, _ => []
  | n + 1, j => if f j = 0 then bm_nz f n (j + 1) else f j :: bm_nz f n (j + 1)
theorem bm_nz_app (f : Nat → Nat) : ∀ m n k, bm_nz f (m + n) k = bm_nz f m k ++ bm_nz f n (k + m)
  | 0, n, k => by rw [Nat.zero_add]; rfl
  | m + 1, n, k => by
    rw [show m + 1 + n = (m + n) + 1 by omega, bm_nz, bm_nz, bm_nz_app f m n (k + 1), show k + 1 + m = k + (m + 1) by omega]
    split <;> rfl
theorem bm_nz_bs {f : Nat → Nat} {a : Int32} {k : Nat} : ∀ n j, j + n = 4 → (∀ i, i < 4 → f (k + i) = bm_byte a i) → bm_nz f n (k + j) = bm_bs a n j
  | 0, j, _, _ => rfl
  | n + 1, j, hj, h => by rw [bm_nz, bm_bs, h j (by omega), Nat.add_assoc, bm_nz_bs n (j + 1) (by omega) h]
def bm_kb (a b c d e : Int32) (k : Nat) : Nat := bm_byte (if k < 4 then a else if k < 8 then b else if k < 12 then c else if k < 16 then d else e) (k % 4)
theorem bm_nz_fed (a b c d e : Int32) : bm_nz (bm_kb a b c d e) 20 0 = bm_fed a b c d e := by
  rw [show (20 : Nat) = 4 + (4 + (4 + (4 + 4))) from rfl, bm_nz_app, bm_nz_app, bm_nz_app, bm_nz_app]
  unfold bm_fed
  rw [show (0 : Nat) = 0 + 0 from rfl, bm_nz_bs (k := 0) (a := a) 4 0 rfl (fun i hi => by unfold bm_kb; rw [if_pos (by omega), show (0 + i) % 4 = i by omega])]
  rw [show 0 + 0 + 4 = 4 + 0 from rfl, bm_nz_bs (k := 4) (a := b) 4 0 rfl (fun i hi => by unfold bm_kb; rw [if_neg (by omega), if_pos (by omega), show (4 + i) % 4 = i by omega])]
  rw [show 4 + 0 + 4 = 8 + 0 from rfl, bm_nz_bs (k := 8) (a := c) 4 0 rfl (fun i hi => by unfold bm_kb; rw [if_neg (by omega), if_neg (by omega), if_pos (by omega), show (8 + i) % 4 = i by omega])]
  rw [show 8 + 0 + 4 = 12 + 0 from rfl, bm_nz_bs (k := 12) (a := d) 4 0 rfl (fun i hi => by unfold bm_kb; rw [if_neg (by omega), if_neg (by omega), if_neg (by omega), if_pos (by omega), show (12 + i) % 4 = i by omega])]
  rw [show 12 + 0 + 4 = 16 + 0 from rfl, bm_nz_bs (k := 16) (a := e) 4 0 rfl (fun i hi => by unfold bm_kb; rw [if_neg (by omega), if_neg (by omega), if_neg (by omega), if_neg (by omega), show (16 + i) % 4 = i by omega])]
theorem yv_byte {a b c d e : Int32} {k : Nat} (hk : k < 20) : vX12_byteOf a b c d e (nI k) = nI (bm_kb a b c d e k) := by
  have h8 : ∀ k, k < 20 → (24 - (8 * (nI k - nI k / 4 * 4))) = nI (24 - 8 * (k % 4)) := by decide
  unfold vX12_byteOf bm_kb
  rw [h8 k hk, nl_4, nl_8, nl_12, nl_16]
  simp only [nI_leI (a := 4) (b := k) (by decide) (by omega), nI_leI (a := 8) (b := k) (by decide) (by omega), nI_leI (a := 12) (b := k) (by decide) (by omega), nI_leI (a := 16) (b := k) (by decide) (by omega)]
  have h4 : k % 4 < 4 := Nat.mod_lt _ (by decide)
  simp only [bm_sb2 h4]
  repeat' (first | rfl | omega | split)
theorem bm_kb_lt {a b c d e : Int32} {k : Nat} : bm_kb a b c d e k < 256 := bm_byte_lt _ _
theorem qm_feed {Q : Int32 → bw_W → Prop} {t : List Nat} {a b c d' e : Int32} (hT : by_T t w) (ht : bm_wfT t) (hq : ∀ w', by_fr [51] [2] w w' → by_T (bt_feed t a b c d' e) w' → Q (br_feed t a b c d' e) w') : bw_ri E (d + 1) mX12_feed [.ref 50, .int a, .int b, .int c, .int d', .int e] w Q := by
  have ht1 := ht.1
  have hlen : ∀ n k, (bm_nz (bm_kb a b c d' e) n k).length ≤ n := by
    intro n
    induction n with
    | zero => intro k; exact Nat.le_refl _
    | succ n ih =>
      intro k
      have := ih (k + 1)
      rw [bm_nz]
      split
      · omega
      · rw [List.length_cons]; omega
  have h20 := hlen 20 0
  rw [bm_nz_fed] at h20
  have key2 : t.length + (bm_fed a b c d' e).length ≤ 480 → ∀ n k (u : List Nat) (w' : bw_W) l6, k + n = 20 → u ++ bm_nz (bm_kb a b c d' e) n k = t ++ bm_fed a b c d' e → by_fr [51] [2] w w' → by_T u w' → bw_G E (d + 1) mX12_feed 62 [some (.ref 50), some (.int a), some (.int b), some (.int c), some (.int d'), some (.int e), some (.int l6), some (.int (nI k)), none] [] w' (bw_qi Q) := by
    intro hle n
    induction n with
    | zero =>
      intro k u w' l6 hk hc hf hu
      have ek : k = 20 := by omega
      subst ek
      rw [bm_nz, List.append_nil] at hc
      subst hc
      refine wfX12_feed_62 (br_t (by decide) ?_)
      unfold bt_feed br_feed at hq
      rw [if_pos hle, if_pos hle] at hq
      rw [hu.1, List.length_append]
      exact hq w' hf hu
    | succ n ih =>
      intro k u w' l6 hk hc hf hu
      have hl2 := congrArg List.length hc
      rw [List.length_append, List.length_append] at hl2
      rw [bm_nz] at hc hl2
      refine wfX12_feed_62 (br_f (nI_ge (a := k) (b := 20) (by omega) (by decide)) ?_)
      have hb : bm_kb a b c d' e k < 256 := bm_kb_lt
      rw [yv_byte (by omega), hu.1, nI_1, nI_1, nI_z (show bm_kb a b c d' e k < 2 ^ 31 by omega)]
      refine ⟨fun z => ?_, fun z => ?_⟩
      · rw [if_pos z] at hc
        exact ih (k + 1) u w' l6 (by omega) hc hf hu
      · rw [if_neg z] at hc hl2
        rw [List.length_cons] at hl2
        refine ⟨bm_in (by omega) (by decide), ?_⟩
        rw [nI_clamp (by omega)]
        exact ih (k + 1) _ _ l6 (by omega) (by rw [List.append_assoc]; exact hc) ((hf.si (by decide) (by decide)).s5 (by decide)) (by_T_add hu)
  have key : ∀ n k c1, k + n = 20 → c1 + (bm_nz (bm_kb a b c d' e) n k).length = (bm_fed a b c d' e).length → bw_G E (d + 1) mX12_feed 6 [some (.ref 50), some (.int a), some (.int b), some (.int c), some (.int d'), some (.int e), some (.int (nI c1)), some (.int (nI k)), none] [] w (bw_qi Q) := by
    intro n
    induction n with
    | zero =>
      intro k c1 hk hc
      have ek : k = 20 := by omega
      subst ek
      rw [bm_nz, List.length_nil, Nat.add_zero] at hc
      subst hc
      refine wfX12_feed_6 (br_t (by decide) ?_)
      rw [hT.1, nI_add, nl_480, nI_leI (by omega) (by decide)]
      refine ⟨fun z => key2 z 20 0 t w _ rfl (by rw [bm_nz_fed]) (by_fr.rf _ _ _) hT, fun z => ?_⟩
      unfold bt_feed br_feed at hq
      rw [if_neg z, if_neg z] at hq
      exact hq w (by_fr.rf _ _ _) hT
    | succ n ih =>
      intro k c1 hk hc
      rw [bm_nz] at hc
      refine wfX12_feed_6 (br_f (nI_ge (a := k) (b := 20) (by omega) (by decide)) ?_)
      have hb : bm_kb a b c d' e k < 256 := bm_kb_lt
      rw [yv_byte (by omega), nI_1, nI_1, nI_z (show bm_kb a b c d' e k < 2 ^ 31 by omega), Int32.add_zero]
      refine ⟨fun z => ?_, fun z => ?_⟩
      · rw [if_pos z] at hc
        exact ih (k + 1) c1 (by omega) hc
      · rw [if_neg z, List.length_cons] at hc
        exact ih (k + 1) (c1 + 1) (by omega) (by omega)
  exact wfX12_feed (key 20 0 0 rfl (by rw [bm_nz_fed]; omega))
/-- what end answers, the tape then -/
def br_end (t : List Nat) (a : Int32) : Bool := (bm_ix a (t.length + 1)).isSome
def bt_end (t : List Nat) (a : Int32) : List Nat := match bm_ix a (t.length + 1) with
  | none => t
  | some n => t.take n
theorem bm_wf_end {t : List Nat} (h : bm_wfT t) (a : Int32) : bm_wfT (bt_end t a) := by
  unfold bt_end
  split
  · exact h
  · exact ⟨by rw [List.length_take]; have := h.1; omega, fun x hx => h.2 x (List.mem_of_mem_take hx)⟩
theorem bm_tk {t : List Nat} {n i : Nat} (hi : i < n) : (t.take n).getD i 0 = t.getD i 0 := by
  rw [List.getD_eq_getElem?_getD, List.getD_eq_getElem?_getD, List.getElem?_take_of_lt hi]
theorem qx_end {Q : Bool → bw_W → Prop} {t : List Nat} {a : Int32} (hT : bx_T t w) (ht : bm_wfT t) (hq : ∀ w', bw_fr [1, 2] w w' → bx_T (bt_end t a) w' → Q (br_end t a) w') : bw_rb E (d + 0) mX11_end [.ref 0, .int a] w Q := by
  have ht1 := ht.1
  refine wfX11_end ?_
  rw [hT.1]
  unfold bt_end br_end at hq
  have hi := bm_x_iff (a := a) (n := t.length + 1) (by omega)
  have hlt : (nI (t.length + 1) ≤ a) ↔ ¬ (a ≤ nI t.length) := by
    rw [fa_le, fa_le, nI_toInt (by omega), nI_toInt (by omega)]; omega
  rw [hlt] at hi
  cases e0 : bm_ix a (t.length + 1) with
  | none =>
    rw [e0] at hq hi
    have hr := hq w (bw_fr.rf _ _) hT
    refine ⟨fun _ => hr, fun z => ⟨fun y => ?_, fun _ => hr⟩⟩
    exact absurd rfl (hi.mp ⟨z, fun q => q y⟩)
  | some n =>
    rw [e0] at hq hi
    obtain ⟨g0, rfl⟩ := bm_ix_some e0
    obtain ⟨i1, i2⟩ := hi.mpr (by simp)
    refine br_f i1 (br_t (Classical.not_not.mp i2) (hq _ ((bw_fr.rf _ _).si (by decide)) ⟨?_, fun i hi => ?_⟩))
    · rw [gs_ii, if_pos ⟨rfl, rfl⟩, List.length_take, Nat.min_eq_left (by omega)]
    · rw [List.length_take] at hi
      rw [gs_ii, if_neg (by omega), hT.2 i (by omega), bm_tk (by omega)]
theorem qm_end {Q : Bool → bw_W → Prop} {t : List Nat} {a : Int32} (hT : by_T t w) (ht : bm_wfT t) (hq : ∀ w', by_fr [51] [2] w w' → by_T (bt_end t a) w' → Q (br_end t a) w') : bw_rb E (d + 1) mX12_end [.ref 50, .int a] w Q := by
  have ht1 := ht.1
  refine wfX12_end ?_
  rw [hT.1, bm_k_iff (n := t.length + 1) rfl (by omega)]
  unfold bt_end br_end at hq
  cases e0 : bm_ix a (t.length + 1) with
  | none =>
    rw [e0] at hq
    exact br_f (fun q => q rfl) (hq w (by_fr.rf _ _ _) hT)
  | some n =>
    rw [e0] at hq
    obtain ⟨g0, rfl⟩ := bm_ix_some e0
    refine br_t (by simp) (hq _ ((by_fr.rf _ _ _).s5 (by decide)) ⟨?_, fun i hi => ?_⟩)
    · rw [gs_ii, if_pos ⟨rfl, rfl⟩, List.length_take, Nat.min_eq_left (by omega)]
    · rw [List.length_take] at hi
      rw [gs_ii, if_neg (by omega), hT.2 i (by omega), bm_tk (by omega)]
end TAPE
