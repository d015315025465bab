/-! an act of the class -/
def st_do (S : bm_S) (p : bm_P) : bm_S := (st_t S, st_X S, bm_do (st_N S) p, (p.1, p.2.1, bm_many (st_X S) (bm_do (st_N S) p) (bm_nm (st_X S))) :: st_G S, (st_N S :: st_U S).take 40, st_I S, st_C S, st_R S)
def st_no (S : bm_S) (e : Nat) : bm_S := (st_t S, st_X S, st_N S, st_G S, st_U S, st_I S, st_C S, bm_set (st_R S) e (st_R S e + 1))
def st_act (S : bm_S) (f : Bool) : Nat ⊕ bm_P → bm_S
  | .inl e => if f then st_no S e else S
  | .inr p => st_do S p
def br_ok : Nat ⊕ bm_P → Bool
  | .inl _ => false
  | .inr _ => true
theorem bm_many_le (X : bm_X) (N : bm_N) : ∀ n, bm_many X N n ≤ n
  | 0 => Nat.le_refl _
  | n + 1 => by
    have := bm_many_le X N n
    rw [bm_many]; split <;> omega
theorem bm_wfn_do {X : bm_X} {N : bm_N} {p : bm_P} (hx : bm_wfX X) (h : bm_wfn X N) (hr : bm_rdy X p) : bm_wfn X (bm_do N p) := by
  have h6 := hx.1
  obtain ⟨s, a, b, c, u⟩ := p
  obtain ⟨_, h4, h0, h1, h2, h3, hu⟩ := hr
  rcases bm_s5 h4 with e | e | e | e | e
  · have e' : s = 0 := e
    subst e'
    have t : a < 3 ∧ b < bm_nn X ∧ c ≤ 99 := h0 rfl
    refine ⟨⟨h.1.1, fun k n' c' hk e => ?_⟩, h.2⟩
    have e2 : bm_set (bm_hol N) a (some (b, c)) k = some (n', c') := e
    by_cases hka : k = a
    · subst hka
      rw [bm_set_eq] at e2
      cases e2
      exact t.2
    · rw [bm_set_ne hka] at e2
      exact h.1.2 k n' c' hk e2
  · have e' : s = 1 := e
    subst e'
    refine ⟨⟨h.1.1, fun k n' c' hk e => ?_⟩, h.2⟩
    have e2 : bm_set (bm_hol N) a none k = some (n', c') := e
    by_cases hka : k = a
    · subst hka
      rw [bm_set_eq] at e2
      cases e2
    · rw [bm_set_ne hka] at e2
      exact h.1.2 k n' c' hk e2
  · have e' : s = 2 := e
    subst e'
    exact ⟨⟨h.1.1, h.1.2⟩, h.2⟩
  · have e' : s = 3 := e
    subst e'
    have t : a < bm_nn X ∧ b < 4 ∧ c < 2 := h3 (Or.inl rfl)
    refine ⟨⟨fun i hi => ?_, h.1.2⟩, fun i h1 h2 => ?_⟩
    · show bm_ok (bm_set (bm_frm N) (8 * a + 2 * b + c) u i)
      by_cases hia : i = 8 * a + 2 * b + c
      · rw [hia, bm_set_eq]; exact hu
      · rw [bm_set_ne hia]; exact h.1.1 i hi
    · show bm_set (bm_frm N) (8 * a + 2 * b + c) u i = []
      rw [bm_set_ne (by omega)]; exact h.2 i h1 h2
  · have e' : s = 4 := e
    subst e'
    have t : a < bm_nn X ∧ b < 4 ∧ c < 2 := h3 (Or.inr rfl)
    refine ⟨⟨fun i hi => ?_, h.1.2⟩, fun i h1 h2 => ?_⟩
    · show bm_ok (bm_set (bm_frm N) (8 * a + 2 * b + c) [] i)
      by_cases hia : i = 8 * a + 2 * b + c
      · rw [hia, bm_set_eq]; exact bm_ok_nil
      · rw [bm_set_ne hia]; exact h.1.1 i hi
    · show bm_set (bm_frm N) (8 * a + 2 * b + c) [] i = []
      rw [bm_set_ne (by omega)]; exact h.2 i h1 h2
theorem bm_rdy_a9 {X : bm_X} {p : bm_P} (hx : bm_wfX X) (hr : bm_rdy X p) : p.2.1 ≤ 9 := by
  have h6 := hx.1
  obtain ⟨_, h4, h0, h1, h2, h3, hu⟩ := hr
  rcases bm_s5 h4 with e | e | e | e | e
  · have := h0 e; omega
  · have := h1 e; omega
  · have := h2 e; omega
  · have := h3 (Or.inl e); omega
  · have := h3 (Or.inr e); omega
theorem bm_wfS_do {K : Nat} {S : bm_S} {p : bm_P} (h : bm_wfS K S) (hr : bm_rdy (st_X S) p) : bm_wfS (K + 1) (st_do S p) := by
  obtain ⟨h1, h2, h3, h4, h5, h6, h7⟩ := h
  have hm := bm_many_le (st_X S) (bm_do (st_N S) p) (bm_nm (st_X S))
  have hnm := h2.2.1
  refine ⟨h1, h2, bm_wfn_do h2 h3 hr, ⟨?_, ?_⟩, ⟨?_, ?_, ?_⟩, fun q hq => ⟨(h6 q hq).1, (h6 q hq).2.1, (h6 q hq).2.2.up (by omega)⟩, h7⟩
  · show (_ :: st_G S).length ≤ K + 1
    rw [List.length_cons]; have := h4.1; omega
  · intro a ha
    rcases List.mem_cons.mp ha with rfl | ha
    · exact ⟨hr.2.1, bm_rdy_a9 h2 hr, by show bm_many _ _ _ ≤ 9; omega⟩
    · exact h4.2 a ha
  · show ((st_N S :: st_U S).take 40).length ≤ 40
    rw [List.length_take]; omega
  · show ((st_N S :: st_U S).take 40).length ≤ (_ :: st_G S).length
    rw [List.length_take, List.length_cons, List.length_cons]; have := h5.2.1; omega
  · intro N hN
    have := List.mem_of_mem_take hN
    rcases List.mem_cons.mp this with rfl | h
    · exact h3
    · exact h5.2.2 N h
theorem bm_wfS_no {K : Nat} {S : bm_S} {e : Nat} (h : bm_wfS K S) : bm_wfS K (st_no S e) := h
theorem br_ref_inr {X : bm_X} {N : bm_N} {s : Nat} {a b c : Int32} {u : List Nat} {p : bm_P} (h : br_ref X N s a b c u = .inr p) : br_res X s a b c u = .inr p ∧ bm_so N p = false := by
  unfold br_ref at h
  cases e : br_res X s a b c u with
  | inl e0 => rw [e] at h; cases h
  | inr q =>
    rw [e] at h
    have h' : (if bm_so N q = true then (.inl 2 : Nat ⊕ bm_P) else .inr q) = .inr p := h
    split at h'
    · cases h'
    · rename_i c; cases h'; exact ⟨rfl, by simpa using c⟩
theorem br_ref_inl {X : bm_X} {N : bm_N} {s : Nat} {a b c : Int32} {u : List Nat} {e : Nat} (h : br_ref X N s a b c u = .inl e) : e ≤ 2 := by
  unfold br_ref at h
  cases e1 : br_res X s a b c u with
  | inl e0 =>
    rw [e1] at h
    have := br_res_inl e1
    cases h; omega
  | inr q =>
    rw [e1] at h
    have h' : (if bm_so N q = true then (.inl 2 : Nat ⊕ bm_P) else .inr q) = .inl e := h
    split at h'
    · cases h'; omega
    · cases h'
theorem bm_wfS_act {K : Nat} {S : bm_S} {f : Bool} {s : Nat} {a b c : Int32} {u : List Nat} (hs : s ≤ 4) (hu : bm_ok u) (h : bm_wfS K S) : bm_wfS (K + 1) (st_act S f (br_ref (st_X S) (st_N S) s a b c u)) := by
  cases e : br_ref (st_X S) (st_N S) s a b c u with
  | inl e0 =>
    show bm_wfS (K + 1) (if f then st_no S e0 else S)
    split
    · exact (bm_wfS_no h).up (by omega)
    · exact h.up (by omega)
  | inr p => exact bm_wfS_do h (br_res_inr hs hu (br_ref_inr e).1).1
theorem bm_u_take {N : bm_N} {U : List bm_N} {j : Nat} (h : j < 40) : bm_u ((N :: U).take 40) j = bm_u (N :: U) j := by
  unfold bm_u
  rw [List.getD_eq_getElem?_getD, List.getD_eq_getElem?_getD, List.getElem?_take, if_pos h]
theorem bm_u_s {N : bm_N} {U : List bm_N} {j : Nat} : bm_u (N :: U) (j + 1) = bm_u U j := rfl
theorem bm_a_s {a : bm_A} {G : List bm_A} {j : Nat} : bm_a (a :: G) (j + 1) = bm_a G j := rfl
abbrev bx_al : List Nat := [32, 35, 37, 38, 39, 40, 47]
theorem bx_S_do {K : Nat} {S : bm_S} {p : bm_P} {w w' : bw_W} (hw : bm_wfS K S) (h : bx_S S w) (hr : bm_rdy (st_X S) p) (hf : bw_fr bx_al w w') (e32 : ∀ i, gw_l w' 32 i = if i = bm_cel p then bm_val p else gw_l w 32 i) (e1 : gw_i w' 37 1 = nI ((st_G S).length + 1)) (e4 : gw_i w' 37 4 = nI (min ((st_U S).length + 1) 40)) (e38 : ∀ k, gw_i w' 38 k = if k = (st_G S).length % 100 then nI (bx_row (p.1, p.2.1, bm_many (st_X S) (bm_do (st_N S) p) (bm_nm (st_X S)))) else gw_i w 38 k) (e39 : ∀ k, gw_i w' 39 k = if k = (st_G S).length % 40 then nI (bm_cel p) else gw_i w 39 k) (e40 : ∀ k, gw_l w' 40 k = if k = (st_G S).length % 40 then gw_l w 32 (bm_cel p) else gw_l w 40 k) (e47 : ∀ k, gw_i w' 47 k = gw_i w 47 k) : bx_S (st_do S p) w' := by
  obtain ⟨h1, h2, h3, h4, h5, h6, h7, h8, h9⟩ := h
  have hx := hw.2.1
  have hcl := bm_cel_lt hx hr
  have hU := hw.2.2.2.2.1
  have h4' := bx_N_iff.mp h4
  have hlen : ((st_N S :: st_U S).take 40).length = min ((st_U S).length + 1) 40 := by rw [List.length_take, List.length_cons]; omega
  refine ⟨h1.fr hf (by decide) (by decide), h2.fr hf (by decide), h3.fr hf (by decide), bx_N_iff.mpr (fun i hi => ?_), ⟨?_, fun i hi hl => ?_⟩, ⟨?_, fun j hj => ?_⟩, h7.fr hf (by decide) (by decide) (by decide) (by decide), h8.fr hw.2.2.2.2.2.2 hf (by decide) (fun c q => ?_), fun i hi => by rw [e47]; exact h9 i hi⟩
  · show gw_l w' 32 i = cx_N (bm_do (st_N S) p) i
    rw [e32, cx_do (st_N S) hx hr hi]
    by_cases c : i = bm_cel p
    · rw [if_pos c, if_pos c]
    · rw [if_neg c, if_neg c]; exact h4' i hi
  · rw [e1]; rfl
  · have hi' : i < 60 + ((st_N S :: st_U S).take 40).length := hi
    have hl' : i < (st_G S).length + 1 := hl
    rw [hlen] at hi'
    show gw_i w' 38 (((st_G S).length + 1 - 1 - i) % 100) = nI (bx_row (bm_a (_ :: st_G S) i))
    rw [e38]
    cases i with
    | zero => rw [if_pos (by omega)]; rfl
    | succ k =>
      rw [if_neg (by omega), bm_a_s, show (st_G S).length + 1 - 1 - (k + 1) = (st_G S).length - 1 - k by omega]
      exact h5.2 k (by omega) (by omega)
  · rw [e4]; show _ = nI ((st_N S :: st_U S).take 40).length; rw [hlen]
  · have hj' : j < ((st_N S :: st_U S).take 40).length := hj
    rw [hlen] at hj'
    show ∃ c, c < 52 ∧ gw_i w' 39 (((st_G S).length + 1 - 1 - j) % 40) = nI c ∧ ∀ i, i < 52 → cx_N (bm_u ((st_N S :: st_U S).take 40) j) i = if i = c then gw_l w' 40 (((st_G S).length + 1 - 1 - j) % 40) else cx_N (bm_u (bm_do (st_N S) p :: (st_N S :: st_U S).take 40) j) i
    rw [e39, e40, bm_u_take (by omega)]
    cases j with
    | zero =>
      refine ⟨bm_cel p, hcl, by rw [if_pos (by omega)], fun i hi => ?_⟩
      rw [if_pos (show ((st_G S).length + 1 - 1 - 0) % 40 = (st_G S).length % 40 by omega)]
      show cx_N (st_N S) i = if i = bm_cel p then gw_l w 32 (bm_cel p) else cx_N (bm_do (st_N S) p) i
      rw [cx_do (st_N S) hx hr hi]
      by_cases c : i = bm_cel p
      · rw [if_pos c, c]; exact (h4' _ hcl).symm
      · rw [if_neg c, if_neg c]
    | succ k =>
      rw [if_neg (by omega), if_neg (by omega), bm_u_s, bm_u_s, bm_u_take (by omega), show (st_G S).length + 1 - 1 - (k + 1) = (st_G S).length - 1 - k by omega]
      exact h6.2 k (by omega)
  · have : ∀ c, c ∈ bx_al → c < 78 := by decide
    exact Or.inl (this c q)
section XACT
variable {E : bw_E} {d : Nat} {w : bw_W} {S : bm_S} {K sp : Nat}
theorem bx_S_no {e : Nat} {w' : bw_W} (hw : bm_wfS K S) (h : bx_S S w) (he : e ≤ 2) (hf : bw_fr [47] w w') (e47 : ∀ k, gw_i w' 47 k = if k = e then gw_i w 47 e + 1 else gw_i w 47 k) : bx_S (st_no S e) w' := by
  obtain ⟨h1, h2, h3, h4, h5, h6, h7, h8, h9⟩ := h
  refine ⟨h1.fr hf (by decide) (by decide), h2.fr hf (by decide), h3.fr hf (by decide), h4.fr hf (by decide), h5.fr hf (by decide) (by decide), h6.fr hf (by decide) (by decide) (by decide), h7.fr hf (by decide) (by decide) (by decide) (by decide), h8.fr hw.2.2.2.2.2.2 hf (by decide) (fun c q => Or.inl (by rw [List.mem_singleton.mp q]; decide)), fun i hi => ?_⟩
  show gw_i w' 47 i = bm_set (st_R S) e (st_R S e + 1) i
  rw [e47]
  by_cases c : i = e
  · rw [if_pos c, c, bm_set_eq, h9 e (by omega)]
  · rw [if_neg c, bm_set_ne c, h9 i hi]
theorem xs_act {Q : Bool → bw_W → Prop} {f : Bool} {s : Nat} {a b c : Int32} {u : List Nat} (hw : bm_wfS K S) (hK : K < 2 ^ 30) (h : bx_S S w) (hsp : bw_sh sp = (0, 8, 5)) (hs : s ≤ 4) (hu : bm_ok u) (hf : bx_sf s a b c u sp w) (hq : ∀ w', bw_fr bx_al w w' → bx_S (st_act S f (br_ref (st_X S) (st_N S) s a b c u)) w' → Q (br_ok (br_ref (st_X S) (st_N S) s a b c u)) w') : bw_rb E (d + 5) mX11_act [.ref 0, .ref sp, .int (bw_b f)] w Q := by
  have hx := hw.2.1
  have hW := hw.2.2.1.1
  obtain ⟨h1, h2, h3, h4, h5, h6, h7, h8, h9⟩ := id h
  have hspL : sp ∉ bx_al := fun q => by
    have : ∀ c, c ∈ bx_al → bw_sh c ≠ (0, 8, 5) := by decide
    exact this sp q hsp
  refine wfX11_act hsp ⟨fun v w3 => br_code (br_ref (st_X S) (st_N S) s a b c u) = v ∧ w = w3, xs_ref (d := d + 2) h2 h3 h4 hW hx hsp hs hu hf ⟨rfl, rfl⟩, ?_⟩
  rintro _ _ ⟨rfl, rfl⟩
  cases e : br_ref (st_X S) (st_N S) s a b c u with
  | inl e0 =>
    have he := br_ref_inl e
    rw [e] at hq
    refine br_f (nI_ne_m1 (by omega)) ⟨fun z => ?_, fun z => ⟨bm_in (n := 3) (by omega) (by decide), bm_in (n := 3) (by omega) (by decide), ?_⟩⟩
    · subst z; exact hq w (bw_fr.rf _ _) h
    · subst z
      show Q false (sw_i w 47 ((nI e0).toNatClampNeg) ((gw_i w 47 ((nI e0).toNatClampNeg)) + 1))
      rw [nI_clamp (by omega)]
      have f47 : bw_fr [47] w (sw_i w 47 e0 (gw_i w 47 e0 + 1)) := (bw_fr.rf _ _).si (by decide)
      refine hq _ (f47.up (by decide)) (bx_S_no hw h he f47 (fun k => ?_))
      rw [gs_ii]
      by_cases c : k = e0
      · rw [if_pos ⟨rfl, c⟩, if_pos c]
      · rw [if_neg (fun q => c q.2), if_neg c]
  | inr p =>
    rw [e] at hq
    obtain ⟨er, eso⟩ := br_ref_inr e
    obtain ⟨hr, hp1, _⟩ := br_res_inr hs hu er
    have hpf := br_res_pf hs hu er hf
    have hvb := bm_rdy_vb hx hr
    have hlt := bm_cel_lt hx hr
    have hgl := hw.2.2.2.1.1
    have hul := hw.2.2.2.2.1.1
    refine br_t rfl ⟨fun v w6 => nI (bm_cel p) = v ∧ w = w6, xs_cel (d := d + 3) hsp hr.2.1 hpf ⟨rfl, rfl⟩, ?_⟩
    rintro _ _ ⟨rfl, rfl⟩
    have hm : gw_i w 37 1 - gw_i w 37 1 / 40 * 40 = nI ((st_G S).length % 40) := by rw [h5.1, show (40 : Int32) = nI 40 from rfl, pk_rem (by omega) (by decide) (by decide)]
    rw [hm, nI_clamp (by omega), nI_clamp (by omega)]
    have h40 : (st_G S).length % 40 < 40 := Nat.mod_lt _ (by decide)
    refine ⟨bm_in hlt (by decide), bm_in h40 (by decide), bm_in h40 (by decide), ?_⟩
    have hun : (if 40 < (gw_i w 37 4) + 1 then 40 else (gw_i w 37 4) + 1) = nI (min ((st_U S).length + 1) 40) := by
      rw [h6.1, nI_1, show (40 : Int32) = nI 40 from rfl]
      by_cases c : 40 < (st_U S).length + 1
      · rw [if_pos (nI_lt c (by omega)), Nat.min_eq_right (by omega)]
      · rw [if_neg (nI_nlt (by omega) (by decide)), Nat.min_eq_left (by omega)]
    rw [hun]
    generalize hwA : sw_i (sw_l (sw_i w 39 ((st_G S).length % 40) (nI (bm_cel p))) 40 ((st_G S).length % 40) (gw_l w 32 (bm_cel p))) 37 4 (nI (min ((st_U S).length + 1) 40)) = wA
    have fA : bw_fr [37, 39, 40] w wA := by rw [← hwA]; exact (((bw_fr.rf _ _).si (by decide)).sl (by decide)).si (by decide)
    refine ⟨fun v w9 => bm_val p = v ∧ wA = w9, xs_val (d := d + 3) hsp hr.2.1 hvb.1 hvb.2 (hpf.fr (fA.up (S2 := bx_al) (by decide)) hspL) ⟨rfl, rfl⟩, ?_⟩
    rintro _ _ ⟨rfl, rfl⟩
    refine ⟨bm_in hlt (by decide), ?_⟩
    generalize hwB : sw_l wA 32 (bm_cel p) (bm_val p) = wB
    have fB : bw_fr [32, 37, 39, 40] w wB := by rw [← hwB]; exact (fA.up (by decide)).sl (by decide)
    have e32 : ∀ i, gw_l wB 32 i = if i = bm_cel p then bm_val p else gw_l w 32 i := by
      intro i
      rw [← hwB, gs_ll]
      by_cases c : i = bm_cel p
      · rw [if_pos ⟨rfl, c⟩, if_pos c]
      · rw [if_neg (fun q => c q.2), if_neg c, fA.l (by decide)]
    have hNB : bx_N (bm_do (st_N S) p) wB := bx_N_iff.mpr (fun i hi => by
      rw [e32, cx_do (st_N S) hx hr hi]
      by_cases c : i = bm_cel p
      · rw [if_pos c, if_pos c]
      · rw [if_neg c, if_neg c]; exact bx_N_iff.mp h4 i hi)
    have hWB := bm_wfn_do hx hw.2.2.1 hr
    refine ⟨fun v w16 => v = nI (bm_bits (st_X S) (bm_do (st_N S) p) (bm_nm (st_X S))) ∧ bw_fr [35] wB w16, xs_bits (d := d) (h2.fr fB (by decide)) hNB hWB.1 hx (fun w' f' => ⟨rfl, f'⟩), ?_⟩
    rintro _ w16 ⟨rfl, fC⟩
    have g16 : gw_i w16 37 1 = nI (st_G S).length := by rw [fC.i (by decide), ← hwB, gs_il, ← hwA, gs_ii, if_neg (by omega), gs_il, gs_ii, if_neg (by omega)]; exact h5.1
    have hm2 : gw_i w16 37 1 - gw_i w16 37 1 / 100 * 100 = nI ((st_G S).length % 100) := by rw [g16, show (100 : Int32) = nI 100 from rfl, pk_rem (by omega) (by decide) (by decide)]
    rw [hm2, nI_clamp (by omega), g16, nI_1]
    refine ⟨bm_in (Nat.mod_lt _ (by decide)) (by decide), ?_⟩
    have hsB := hpf.fr (fB.up (S2 := bx_al) (by decide)) hspL
    have hblt := bm_bits_lt (st_X S) (bm_do (st_N S) p) (bm_nm (st_X S))
    have hpow : 2 ^ bm_nm (st_X S) ≤ 2 ^ 4 := Nat.pow_le_pow_right (by decide) hx.2.1
    have hrow : (((gw_i wB sp 0 * 10) + gw_i wB sp 1) * 10) + vJ6_bitCount_0f7a4 (nI (bm_bits (st_X S) (bm_do (st_N S) p) (bm_nm (st_X S)))) = nI (bx_row (p.1, p.2.1, bm_many (st_X S) (bm_do (st_N S) p) (bm_nm (st_X S)))) := by
      rw [bm_pop_bc _ (by omega), bm_pop_many _ _ hx.2.1, hsB.1, hsB.2.1, show (10 : Int32) = nI 10 from rfl, pk_mul, nI_add, pk_mul, nI_add]; rfl
    rw [hrow]
    have fF : bw_fr bx_al w (sw_i (sw_i w16 38 ((st_G S).length % 100) (nI (bx_row (p.1, p.2.1, bm_many (st_X S) (bm_do (st_N S) p) (bm_nm (st_X S)))))) 37 1 (nI ((st_G S).length + 1))) := (((fB.up (S2 := bx_al) (by decide)).tr (fC.up (by decide))).si (by decide)).si (by decide)
    refine hq _ fF (bx_S_do hw h hr fF (fun i => ?_) ?_ ?_ (fun k => ?_) (fun k => ?_) (fun k => ?_) (fun k => ?_))
    · rw [gs_li, gs_li, fC.l (by decide)]; exact e32 i
    · rw [gs_ii, if_pos ⟨rfl, rfl⟩]
    · rw [gs_ii, if_neg (by omega), gs_ii, if_neg (by omega), fC.i (by decide), ← hwB, gs_il, ← hwA, gs_ii, if_pos ⟨rfl, rfl⟩]
    · rw [gs_ii, if_neg (by omega), gs_ii]
      by_cases c : k = (st_G S).length % 100
      · rw [if_pos ⟨rfl, c⟩, if_pos c]
      · rw [if_neg (fun q => c q.2), if_neg c, fC.i (by decide), fB.i (by decide)]
    · rw [gs_ii, if_neg (by omega), gs_ii, if_neg (by omega), fC.i (by decide), ← hwB, gs_il, ← hwA, gs_ii, if_neg (by omega), gs_il, gs_ii]
      by_cases c : k = (st_G S).length % 40
      · rw [if_pos ⟨rfl, c⟩, if_pos c]
      · rw [if_neg (fun q => c q.2), if_neg c]
    · rw [gs_li, gs_li, fC.l (by decide), ← hwB, gs_ll, if_neg (by omega), ← hwA, gs_li, gs_ll]
      by_cases c : k = (st_G S).length % 40
      · rw [if_pos ⟨rfl, c⟩, if_pos c]
      · rw [if_neg (fun q => c q.2), if_neg c, gs_li]
    · rw [gs_ii, if_neg (by omega), gs_ii, if_neg (by omega), fC.i (by decide), fB.i (by decide)]
end XACT
