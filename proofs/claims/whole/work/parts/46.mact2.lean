/-! rows copied; an act of the reference, whole -/
theorem bw_fr.cl {S : List Nat} {w w' : bw_W} (h : bw_fr S w w') {c : Nat} {f : Nat → Int64} (hc : c ∈ S) : bw_fr S w (cw_l w' c f) := by
  intro c' h'
  have e : c' ≠ c := fun q => h' (q ▸ hc)
  unfold cw_l
  exact ⟨(h c' h').1, by simp only [if_neg e]; exact (h c' h').2⟩
theorem bw_fr.ci {S : List Nat} {w w' : bw_W} (h : bw_fr S w w') {c : Nat} {f : Nat → Int32} (hc : c ∈ S) : bw_fr S w (cw_i w' c f) := by
  intro c' h'
  have e : c' ≠ c := fun q => h' (q ▸ hc)
  unfold cw_i
  exact ⟨by simp only [if_neg e]; exact (h c' h').1, (h c' h').2⟩
theorem by_fr.cl {S F : List Nat} {w w' : bw_W} (h : by_fr S F w w') {c : Nat} {f : Nat → Int64} (hc : c ∈ S) (h5 : c ≠ 50) : by_fr S F w (cw_l w' c f) := by
  refine ⟨fun c' h' g => ?_, fun k hk => ?_⟩
  · have e : c' ≠ c := fun q => h' (q ▸ hc)
    unfold cw_l
    exact ⟨(h.1 c' h' g).1, by simp only [if_neg e]; exact (h.1 c' h' g).2⟩
  · have e : 50 ≠ c := fun q => h5 q.symm
    unfold cw_l
    exact ⟨(h.2 k hk).1, by simp only [if_neg e]; exact (h.2 k hk).2⟩
/-- n elements of s from p on copied to c from o on -/
def cp_l (w : bw_W) (c o s p n : Nat) : bw_W := cw_l w c (fun x => if o ≤ x ∧ x < o + n then gw_l w s (p + (x - o)) else gw_l w c x)
theorem cp_l_at {w : bw_W} {c o s p n x : Nat} : gw_l (cp_l w c o s p n) c x = if o ≤ x ∧ x < o + n then gw_l w s (p + (x - o)) else gw_l w c x := by unfold cp_l; rw [gc_ll, if_pos rfl]
theorem cp_l_ne {w : bw_W} {c o s p n c' x : Nat} (h : c' ≠ c) : gw_l (cp_l w c o s p n) c' x = gw_l w c' x := by unfold cp_l; rw [gc_ll, if_neg h]
theorem cp_l_i {w : bw_W} {c o s p n c' x : Nat} : gw_i (cp_l w c o s p n) c' x = gw_i w c' x := rfl
theorem cp_l_0 {w : bw_W} {c o s p : Nat} : cp_l w c o s p 0 = w := by
  unfold cp_l cw_l
  refine Prod.ext rfl (funext fun c' => ?_)
  by_cases h : c' = c
  · subst h
    simp only [if_true]
    funext x
    rw [if_neg (by omega)]; rfl
  · simp only [if_neg h]
theorem cp_l_s {w : bw_W} {c o s p n : Nat} (h : s ≠ c ∨ o ≤ p) : sw_l (cp_l w c o s p n) c (o + n) (gw_l (cp_l w c o s p n) s (p + n)) = cp_l w c o s p (n + 1) := by
  have e : gw_l (cp_l w c o s p n) s (p + n) = gw_l w s (p + n) := by
    by_cases q : s = c
    · subst q
      rw [cp_l_at, if_neg (by omega)]
    · exact cp_l_ne q
  rw [e]
  refine Prod.ext rfl (funext fun c' => funext fun x => ?_)
  show gw_l (sw_l (cp_l w c o s p n) c (o + n) (gw_l w s (p + n))) c' x = gw_l (cp_l w c o s p (n + 1)) c' x
  rw [gs_ll]
  by_cases q : c' = c
  · subst q
    rw [cp_l_at, cp_l_at]
    by_cases q2 : x = o + n
    · rw [if_pos ⟨rfl, q2⟩, if_pos (by omega), q2, show o + n - o = n by omega]
    · rw [if_neg (fun z => q2 z.2)]
      by_cases q3 : o ≤ x ∧ x < o + n
      · rw [if_pos q3, if_pos (by omega)]
      · rw [if_neg q3, if_neg (by omega)]
  · rw [if_neg (fun z => q z.1), cp_l_ne q, cp_l_ne q]
theorem by_fr.cp {S F : List Nat} {w w' : bw_W} (h : by_fr S F w w') {c o s p n : Nat} (hc : c ∈ S) (h5 : c ≠ 50) : by_fr S F w (cp_l w' c o s p n) := h.cl hc h5
section MACT2
variable {E : bw_E} {d : Nat} {w : bw_W} {X : bm_X} {N : bm_N} {G : List bm_A} {U : List bm_N}
theorem ys_keep54 {Q : bw_W → Prop} {A : Nat} (hA : gw_i w 50 42 = nI A) (h40 : A < 40) (hq : Q (sw_i (cp_l w 72 (236 * A) 63 0 236) 50 42 (nI (A + 1)))) : bw_G E (d + 0) mX12_keep 54 [some (.ref 50), some (.int 0)] [] w (bw_qv Q) := by
  have key : ∀ n k, k + n = 236 → bw_G E (d + 0) mX12_keep 54 [some (.ref 50), some (.int (nI k))] [] (cp_l w 72 (236 * A) 63 0 k) (bw_qv Q) := by
    intro n
    induction n with
    | zero =>
      intro k h
      have e : k = 236 := by omega
      subst e
      refine wfX12_keep_54 (br_t (by decide) ?_)
      rw [cp_l_i, hA, nI_1]; exact hq
    | succ n ih =>
      intro k h
      refine wfX12_keep_54 (br_f (nI_ge (a := k) (b := 236) (by omega) (by decide)) ?_)
      rw [cp_l_i, hA, show (236 : Int32) = nI 236 from rfl, pk_mul, nI_add, nI_clamp (by omega), nI_clamp (by omega), nI_1]
      refine ⟨bm_in (by omega) (by decide), bm_in (by omega) (by decide), ?_⟩
      have e := cp_l_s (w := w) (c := 72) (o := 236 * A) (s := 63) (p := 0) (n := k) (Or.inl (by decide))
      rw [Nat.zero_add] at e
      rw [e]
      exact ih (k + 1) (by omega)
  have := key 236 0 (by omega)
  rw [cp_l_0] at this
  exact this
theorem ys_keep13 {Q : bw_W → Prop} (hA : gw_i w 50 42 = nI 40) (hq : Q (sw_i (cp_l (sw_i (cp_l w 72 0 72 236 9204) 50 42 (nI 39)) 72 (236 * 39) 63 0 236) 50 42 (nI 40))) : bw_G E (d + 0) mX12_keep 13 [some (.ref 50), some (.int 236)] [] w (bw_qv Q) := by
  have key : ∀ n k, k + n = 9204 → bw_G E (d + 0) mX12_keep 13 [some (.ref 50), some (.int (nI (236 + k)))] [] (cp_l w 72 0 72 236 k) (bw_qv Q) := by
    intro n
    induction n with
    | zero =>
      intro k h
      have e : k = 9204 := by omega
      subst e
      refine wfX12_keep_13 (br_t (nI_le (a := 9440) (b := 236 + 9204) (by omega) (by omega)) ?_)
      rw [cp_l_i, hA, nl_1, pk_sub (by decide)]
      exact ys_keep54 (A := 39) (by rw [gs_ii, if_pos ⟨rfl, rfl⟩]) (by decide) hq
    | succ n ih =>
      intro k h
      refine wfX12_keep_13 (br_f (nI_ge (a := 236 + k) (b := 9440) (by omega) (by decide)) ?_)
      rw [show (236 : Int32) = nI 236 from rfl, pk_sub (by omega), nI_clamp (by omega), nI_clamp (by omega), nI_1]
      refine ⟨bm_in (by omega) (by decide), bm_in (by omega) (by decide), ?_⟩
      have e := cp_l_s (w := w) (c := 72) (o := 0) (s := 72) (p := 236) (n := k) (Or.inr (by decide))
      rw [show 0 + k = 236 + k - 236 by omega] at e
      rw [e]
      exact ih (k + 1) (by omega)
  have := key 9204 0 (by omega)
  rw [cp_l_0] at this
  exact this
theorem bm_u_0 {N : bm_N} {U : List bm_N} : bm_u (N :: U) 0 = N := rfl
theorem ys_keep {Q : bw_W → Prop} (hU : by_U G U w) (hS : by_Sf N G (gw_l w 63)) (hl : U.length ≤ 40) (hq : ∀ w', by_fr [72] [42] w w' → (∀ a, by_U (a :: G) ((N :: U).take 40) w') → Q w') : bw_rv E (d + 0) mX12_keep [.ref 50] w Q := by
  have hlen : ((N :: U).take 40).length = min (U.length + 1) 40 := by rw [List.length_take, List.length_cons]; omega
  have h1 := hU.1
  refine wfX12_keep ⟨fun z => ?_, fun z => ?_⟩
  · rw [h1, show (40 : Int32) = nI 40 from rfl, nI_eq (by omega) (by decide)] at z
    refine ys_keep54 h1 (by omega) (hq _ (((by_fr.rf _ _ _).cp (by decide) (by decide)).s5 (by decide)) (fun a => ⟨?_, fun j hj => ?_⟩))
    · rw [gs_ii, if_pos ⟨rfl, rfl⟩, hlen, Nat.min_eq_left (by omega)]
    · rw [hlen] at hj ⊢
      rw [bm_u_take (by omega), show min (U.length + 1) 40 = U.length + 1 by omega]
      cases j with
      | zero =>
        rw [bm_u_0]
        refine by_Sf_congr (fun i hi => ?_) hS
        rw [gs_li, cp_l_at, if_pos (by omega)]
        congr 1; omega
      | succ k =>
        rw [bm_u_s]
        refine by_Sf_congr (fun i hi => ?_) (hU.2 k (by omega))
        rw [gs_li, cp_l_at, if_neg (by omega)]
        congr 1; omega
  · rw [h1, show (40 : Int32) = nI 40 from rfl, nI_eq (by omega) (by decide)] at z
    rw [z] at h1
    refine ys_keep13 h1 (hq _ ((((by_fr.rf _ _ _).cp (by decide) (by decide)).s5 (by decide)).cp (by decide) (by decide) |>.s5 (by decide)) (fun a => ⟨?_, fun j hj => ?_⟩))
    · rw [gs_ii, if_pos ⟨rfl, rfl⟩, hlen, Nat.min_eq_right (by omega)]
    · rw [hlen] at hj ⊢
      rw [bm_u_take (by omega), show min (U.length + 1) 40 = 40 by omega]
      cases j with
      | zero =>
        rw [bm_u_0]
        refine by_Sf_congr (fun i hi => ?_) hS
        rw [gs_li, cp_l_at, if_pos (by omega), gs_li, cp_l_ne (by decide)]
        exact congrArg (gw_l w 63) (by omega)
      | succ k =>
        rw [bm_u_s]
        refine by_Sf_congr (fun i hi => ?_) (hU.2 k (by omega))
        rw [gs_li, cp_l_at, if_neg (by omega), gs_li, cp_l_at, if_pos (by omega)]
        exact congrArg (gw_l w 72) (by omega)
theorem by_N_hi {w' : bw_W} (hN : by_N N w) (h : ∀ i, i < 55 → gw_l w' 63 i = gw_l w 63 i) : by_N N w' := by_N_iff.mpr (fun i hi => by rw [h i hi]; exact by_N_iff.mp hN i hi)
theorem ys_nb {Q : bw_W → Prop} {M s n : Nat} (hX : by_X X w) (hN : by_N N w) (hW : bm_wfN X N) (hx : bm_wfX X) (h55 : gw_l w 63 55 = lN M) (hM : M < 60) (hs : s < 2 ^ 31) (hn : n < 2 ^ 31) (hq : ∀ w', by_fr [63, 71] [37, 38, 39, 40] w w' → (∀ i, gw_l w' 63 i = if i = 55 then lN (M + 1) else if i = 56 + 3 * M then lN s else if i = 57 + 3 * M then lN n else if i = 58 + 3 * M then lN (bm_many X N (bm_nm X)) else gw_l w 63 i) → Q w') : (vp_in (56 + (3 * ((gw_l w 63 55).toInt32))) 236) ∧ (vp_in ((56 + (3 * ((gw_l w 63 55).toInt32))) + 1) 236) ∧ (∃ Q3 : Int32 → bw_W → Prop, bw_ri E (d + 7) mX12_tellableMany [.ref 50] (sw_l (sw_l w 63 ((56 + (3 * ((gw_l w 63 55).toInt32))).toNatClampNeg) ((nI s).toInt64)) 63 (((56 + (3 * ((gw_l w 63 55).toInt32))) + 1).toNatClampNeg) ((nI n).toInt64)) Q3 ∧ ∀ v4 w5, Q3 v4 w5 → (vp_in ((56 + (3 * ((gw_l w 63 55).toInt32))) + 2) 236) ∧ Q (sw_l (sw_l w5 63 (((56 + (3 * ((gw_l w 63 55).toInt32))) + 2).toNatClampNeg) (v4.toInt64)) 63 (Int32.toNatClampNeg 55) ((gw_l (sw_l w5 63 (((56 + (3 * ((gw_l w 63 55).toInt32))) + 2).toNatClampNeg) (v4.toInt64)) 63 55) + 1))) := by
  have e0 : (56 : Int32) + (3 * ((gw_l w 63 55).toInt32)) = nI (56 + 3 * M) := by rw [h55, lN_i, nl_3, pk_mul, show (56 : Int32) = nI 56 from rfl, nI_add]
  have hm := bm_many_le X N (bm_nm X)
  have h4 := hx.2.1
  rw [e0, nI_1, nl_2, nI_add, nI_clamp (by omega), nI_clamp (by omega), nI_clamp (by omega), nI_l hs, nI_l hn, show Int32.toNatClampNeg 55 = 55 from rfl]
  have f1 : by_fr [63, 71] [37, 38, 39, 40] w (sw_l (sw_l w 63 (56 + 3 * M) (lN s)) 63 (56 + 3 * M + 1) (lN n)) := ((by_fr.rf _ _ _).sl (by decide) (by decide)).sl (by decide) (by decide)
  refine ⟨bm_in (by omega) (by decide), bm_in (by omega) (by decide), fun v w5 => v = nI (bm_many X N (bm_nm X)) ∧ by_fr [71] [37, 38, 39, 40] (sw_l (sw_l w 63 (56 + 3 * M) (lN s)) 63 (56 + 3 * M + 1) (lN n)) w5, ys_many (d := d) (hX.fr f1 (by decide) (by decide) (by decide)) (by_N_hi hN (fun i hi => by rw [gs_ll, if_neg (by omega), gs_ll, if_neg (by omega)])) hW hx (fun w' f' => ⟨rfl, f'⟩), ?_⟩
  rintro _ w5 ⟨rfl, f5⟩
  refine ⟨bm_in (by omega) (by decide), ?_⟩
  rw [nI_l (by omega)]
  refine hq _ (((f1.tr (f5.up (by decide) (by decide))).sl (by decide) (by decide)).sl (by decide) (by decide)) (fun i => ?_)
  rw [gs_ll]
  by_cases c1 : i = 55
  · rw [if_pos ⟨rfl, c1⟩, if_pos c1, gs_ll, if_neg (by omega), f5.l (by decide) (by decide), gs_ll, if_neg (by omega), gs_ll, if_neg (by omega), h55, lN_1]
  · rw [if_neg (fun z => c1 z.2), if_neg c1, gs_ll, f5.l (by decide) (by decide), gs_ll, gs_ll]
    by_cases c2 : i = 56 + 3 * M
    · rw [if_neg (by omega), if_neg (by omega), if_pos ⟨rfl, c2⟩, if_pos c2]
    · rw [if_neg c2]
      by_cases c3 : i = 57 + 3 * M
      · rw [if_neg (by omega), if_pos ⟨rfl, by omega⟩, if_pos c3]
      · rw [if_neg c3]
        by_cases c4 : i = 58 + 3 * M
        · rw [if_pos ⟨rfl, by omega⟩, if_pos c4]
        · rw [if_neg (by omega), if_neg (by omega), if_neg (by omega), if_neg c4]
theorem ys_note {Q : bw_W → Prop} {s n : Nat} (hX : by_X X w) (hN : by_N N w) (hW : bm_wfN X N) (hx : bm_wfX X) (hG : by_Gf G (gw_l w 63)) (hs : s < 2 ^ 31) (hn : n < 2 ^ 31) (hq : ∀ w', by_fr [63, 71] [37, 38, 39, 40] w w' → by_Sf N ((s, n, bm_many X N (bm_nm X)) :: G) (gw_l w' 63) → Q w') : bw_rv E (d + 8) mX12_note [.ref 50, .int (nI s), .int (nI n)] w Q := by
  have hL := bm_l6_le G
  have hNf := by_N_iff.mp hN
  refine wfX12_note ⟨fun z => ?_, fun z => ?_⟩
  · have z' : bm_l6 G ≠ 60 := fun q => z (by rw [hG.1, q]; rfl)
    have e1 : bm_l6 G = G.length := by unfold bm_l6 at z' ⊢; omega
    have e2 : bm_l6 ((s, n, bm_many X N (bm_nm X)) :: G) = bm_l6 G + 1 := by rw [e1]; unfold bm_l6; rw [List.length_cons]; unfold bm_l6 at z'; omega
    refine ys_nb hX hN hW hx hG.1 (by omega) hs hn (fun w' f' hw' => hq w' f' ⟨fun i hi => ?_, ?_, fun i hi => ?_⟩)
    · rw [hw', if_neg (by omega), if_neg (by omega), if_neg (by omega), if_neg (by omega)]; exact hNf i hi
    · rw [hw', if_pos rfl, e2]
    · rw [e2] at hi ⊢
      cases i with
      | zero =>
        refine ⟨?_, ?_, ?_⟩
        · rw [hw', if_neg (by omega), if_pos (by omega)]; rfl
        · rw [hw', if_neg (by omega), if_neg (by omega), if_pos (by omega)]; rfl
        · rw [hw', if_neg (by omega), if_neg (by omega), if_neg (by omega), if_pos (by omega)]; rfl
      | succ k =>
        rw [bm_a_s, show bm_l6 G + 1 - 1 - (k + 1) = bm_l6 G - 1 - k by omega]
        have t := hG.2 k (by omega)
        refine ⟨?_, ?_, ?_⟩
        · rw [hw', if_neg (by omega), if_neg (by omega), if_neg (by omega), if_neg (by omega)]; exact t.1
        · rw [hw', if_neg (by omega), if_neg (by omega), if_neg (by omega), if_neg (by omega)]; exact t.2.1
        · rw [hw', if_neg (by omega), if_neg (by omega), if_neg (by omega), if_neg (by omega)]; exact t.2.2
  · have z' : bm_l6 G = 60 := by
      rw [hG.1, show (60 : Int64) = lN 60 from rfl, bm_leq (by omega) (by decide)] at z; exact z
    have e2 : bm_l6 ((s, n, bm_many X N (bm_nm X)) :: G) = 60 := by unfold bm_l6 at z' ⊢; rw [List.length_cons]; omega
    have key : ∀ j k, k + j = 177 → bw_G E (d + 8) mX12_note 16 [some (.ref 50), some (.int (nI s)), some (.int (nI n)), some (.int (nI (3 + k)))] [] (cp_l w 63 56 63 59 k) (bw_qv Q) := by
      intro j
      induction j with
      | zero =>
        intro k h
        have e : k = 177 := by omega
        subst e
        have f1 : by_fr [63, 71] [37, 38, 39, 40] w (sw_l (cp_l w 63 56 63 59 177) 63 (Int32.toNatClampNeg 55) ((gw_l (cp_l w 63 56 63 59 177) 63 55) - 1)) := ((by_fr.rf _ _ _).cp (by decide) (by decide)).sl (by decide) (by decide)
        refine wfX12_note_16 (br_t (by decide) ?_)
        have g1 : ∀ i, gw_l (sw_l (cp_l w 63 56 63 59 177) 63 (Int32.toNatClampNeg 55) ((gw_l (cp_l w 63 56 63 59 177) 63 55) - 1)) 63 i = if i = 55 then lN 59 else if 56 ≤ i ∧ i < 233 then gw_l w 63 (i + 3) else gw_l w 63 i := by
          intro i
          rw [show Int32.toNatClampNeg 55 = 55 from rfl, gs_ll]
          by_cases c : i = 55
          · rw [if_pos ⟨rfl, c⟩, if_pos c, cp_l_at, if_neg (by omega), hG.1, z', show (1 : Int64) = lN 1 from rfl, lN_sub (by decide)]
          · rw [if_neg (fun q => c q.2), if_neg c, cp_l_at]
            by_cases c2 : 56 ≤ i ∧ i < 56 + 177
            · rw [if_pos c2, if_pos (by omega), show 59 + (i - 56) = i + 3 by omega]
            · rw [if_neg c2, if_neg (by omega)]
        refine ys_nb (M := 59) (hX.fr f1 (by decide) (by decide) (by decide)) (by_N_hi hN (fun i hi => by rw [g1, if_neg (by omega), if_neg (by omega)])) hW hx (by rw [g1, if_pos rfl]) (by decide) hs hn (fun w' f' hw' => hq w' (f1.tr f') ⟨fun i hi => ?_, ?_, fun i hi => ?_⟩)
        · rw [hw', if_neg (by omega), if_neg (by omega), if_neg (by omega), if_neg (by omega), g1, if_neg (by omega), if_neg (by omega)]; exact hNf i hi
        · rw [hw', if_pos rfl, e2]
        · rw [e2] at hi ⊢
          cases i with
          | zero =>
            refine ⟨?_, ?_, ?_⟩
            · rw [hw', if_neg (by omega), if_pos (by omega)]; rfl
            · rw [hw', if_neg (by omega), if_neg (by omega), if_pos (by omega)]; rfl
            · rw [hw', if_neg (by omega), if_neg (by omega), if_neg (by omega), if_pos (by omega)]; rfl
          | succ k =>
            rw [bm_a_s]
            have t := hG.2 k (by omega)
            rw [z'] at t
            refine ⟨?_, ?_, ?_⟩
            · rw [hw', if_neg (by omega), if_neg (by omega), if_neg (by omega), if_neg (by omega), g1, if_neg (by omega), if_pos (by omega), show 56 + 3 * (60 - 1 - (k + 1)) + 3 = 56 + 3 * (60 - 1 - k) by omega]; exact t.1
            · rw [hw', if_neg (by omega), if_neg (by omega), if_neg (by omega), if_neg (by omega), g1, if_neg (by omega), if_pos (by omega), show 57 + 3 * (60 - 1 - (k + 1)) + 3 = 57 + 3 * (60 - 1 - k) by omega]; exact t.2.1
            · rw [hw', if_neg (by omega), if_neg (by omega), if_neg (by omega), if_neg (by omega), g1, if_neg (by omega), if_pos (by omega), show 58 + 3 * (60 - 1 - (k + 1)) + 3 = 58 + 3 * (60 - 1 - k) by omega]; exact t.2.2
      | succ j ih =>
        intro k h
        refine wfX12_note_16 (br_f (nI_ge (a := 3 + k) (b := 180) (by omega) (by decide)) ?_)
        rw [show (56 : Int32) = nI 56 from rfl, nl_3, nI_add, pk_sub (by omega), nI_clamp (by omega), nI_clamp (by omega), nI_1]
        refine ⟨bm_in (by omega) (by decide), bm_in (by omega) (by decide), ?_⟩
        have e := cp_l_s (w := w) (c := 63) (o := 56) (s := 63) (p := 59) (n := k) (Or.inr (by decide))
        rw [show 56 + (3 + k) - 3 = 56 + k by omega, show 56 + (3 + k) = 59 + k by omega, e]
        exact ih (k + 1) (by omega)
    have := key 177 0 (by omega)
    rw [cp_l_0] at this
    exact this
abbrev by_al : List Nat := [63, 64, 71, 72]
abbrev by_aff : List Nat := [37, 38, 39, 40, 42]
theorem ys_act {Q : Int32 → bw_W → Prop} {K : Nat} {S : bm_S} {p : bm_P} {b c : Int32} {v : Int64} (hw : bm_wfS K S) (h : by_S S w) (hr : bm_rdy (st_X S) p) (hbc : p.1 ≠ 1 → p.1 ≠ 2 → b = nI p.2.2.1 ∧ c = nI p.2.2.2.1) (hv : p.1 = 3 → v = by_w p.2.2.2.2) (hq : ∀ w', by_fr by_al by_aff w w' → by_S (st_do S p) w' → Q (br_ans (st_X S) (st_N S) p) w') : bw_ri E (d + 9) mX12_act [.ref 50, .int (nI p.1), .int (nI p.2.1), .int b, .int c, .long v] w Q := by
  have hx := hw.2.1
  have hWd := bm_wfn_do hx hw.2.2.1 hr
  have hp1 := hr.2.1
  have hp9 := bm_rdy_a9 hx hr
  obtain ⟨h1, h2, h3, h4, h5, h6, h7⟩ := h
  refine wfX12_act ⟨fun w3 => by_fr [72] [42] w w3 ∧ ∀ a, by_U (a :: st_G S) ((st_N S :: st_U S).take 40) w3, ys_keep (d := d + 8) h4 h3 hw.2.2.2.2.1.1 (fun w' f' g => ⟨f', g⟩), ?_⟩
  rintro w3 ⟨f3, hU3⟩
  have e63 : ∀ i, gw_l w3 63 i = gw_l w 63 i := fun i => f3.l (by decide) (by decide) i
  refine ⟨fun v w6 => v = br_ans (st_X S) (st_N S) p ∧ by_fr [63, 71] [37, 38, 39, 40] w3 w6 ∧ by_N (bm_do (st_N S) p) w6 ∧ ∀ i, 55 ≤ i → gw_l w6 63 i = gw_l w3 63 i, ys_do (d := d) (h2.fr f3 (by decide) (by decide) (by decide)) (by_N_iff.mpr (fun i hi => by rw [e63]; exact h3.1 i hi)) hw.2.2.1 hx hr hbc hv (fun w' f' g1 g2 => ⟨rfl, f', g1, g2⟩), ?_⟩
  rintro _ w6 ⟨rfl, f6, hN6, h55⟩
  have f36 : by_fr by_al by_aff w w6 := (f3.up (by decide) (by decide)).tr (f6.up (by decide) (by decide))
  refine ⟨fun w9 => by_fr [63, 71] [37, 38, 39, 40] w6 w9 ∧ by_Sf (bm_do (st_N S) p) ((p.1, p.2.1, bm_many (st_X S) (bm_do (st_N S) p) (bm_nm (st_X S))) :: st_G S) (gw_l w9 63), ys_note (d := d) (h2.fr f36 (by decide) (by decide) (by decide)) hN6 hWd.1 hx ⟨?_, fun i hi => ?_⟩ (by omega) (by omega) (fun w' f' g => ⟨f', g⟩), ?_⟩
  · rw [h55 _ (by omega), e63]; exact h3.2.1
  · rw [h55 _ (by omega), h55 _ (by omega), h55 _ (by omega), e63, e63, e63]; exact h3.2.2 i hi
  rintro w9 ⟨f9, hS9⟩
  have f69 : by_fr [63, 71] [37, 38, 39, 40] w3 w9 := f6.tr f9
  have fa : by_fr by_al by_aff w w9 := f36.tr (f9.up (by decide) (by decide))
  exact hq w9 fa ⟨h1.fr fa (by decide) (by decide), h2.fr fa (by decide) (by decide) (by decide), hS9, (hU3 _).fr f69 (by decide) (by decide), h5.fr fa (by decide) (by decide), h6.fr fa (by decide) (by decide) (by decide) (by decide), fun i hi => by rw [f69.i (by decide) (by decide), f3.i (by decide) (by decide)]; exact h7 i hi⟩
/-- what a call of an act answers -/
def br_hand (S : bm_S) : Nat ⊕ bm_P → Int32
  | .inl _ => -1
  | .inr p => br_ans (st_X S) (st_N S) p
theorem by_S_no {K : Nat} {S : bm_S} {e : Nat} {w' : bw_W} (hw : bm_wfS K S) (h : by_S S w) (he : e ≤ 2) (hf : by_fr [64] [] w w') (e64 : ∀ k, gw_i w' 64 k = if k = e then gw_i w 64 e + 1 else gw_i w 64 k) : by_S (st_no S e) w' := by
  obtain ⟨h1, h2, h3, h4, h5, h6, h7⟩ := h
  refine ⟨h1.fr hf (by decide) (by decide), h2.fr hf (by decide) (by decide) (by decide), ?_, h4.fr hf (by decide) (by decide), h5.fr hf (by decide) (by decide), h6.fr hf (by decide) (by decide) (by decide) (by decide), fun i hi => ?_⟩
  · rw [hf.fl (by decide) (by decide)]; exact h3
  · show gw_i w' 64 i = bm_set (st_R S) e (st_R S e + 1) i
    rw [e64]
    by_cases c : i = e
    · rw [if_pos c, c, bm_set_eq, h7 e (by omega)]
    · rw [if_neg c, bm_set_ne c, h7 i hi]
theorem ys_hand {Q : Int32 → bw_W → Prop} {K : Nat} {S : bm_S} {s : Nat} {a b c : Int32} {v : Int64} {u : List Nat} (hw : bm_wfS K S) (h : by_S S w) (hs : s ≤ 4) (hu : bm_ok u) (hv : s = 3 → v = by_w u) (hq : ∀ w', by_fr by_al by_aff w w' → by_S (st_act S true (br_ref (st_X S) (st_N S) s a b c u)) w' → Q (br_hand S (br_ref (st_X S) (st_N S) s a b c u)) w') : bw_ri E (d + 10) mX12_hand [.ref 50, .int (nI s), .int a, .int b, .int c, .long v] w Q := by
  have hx := hw.2.1
  refine wfX12_hand ⟨fun v w3 => br_code (br_ref (st_X S) (st_N S) s a b c u) = v ∧ w = w3, ys_whyNot (d := d + 6) h.2.1 (by_N_iff.mpr h.2.2.1.1) hw.2.2.1.1 hx hs hu hv ⟨rfl, rfl⟩, ?_⟩
  rintro _ _ ⟨rfl, rfl⟩
  cases e : br_ref (st_X S) (st_N S) s a b c u with
  | inl e0 =>
    have he := br_ref_inl e
    rw [e] at hq
    refine br_f (nI_ne_m1 (by omega)) ⟨bm_in (n := 3) (by omega) (by decide), bm_in (n := 3) (by omega) (by decide), ?_⟩
    show Q (-1) (sw_i w 64 ((nI e0).toNatClampNeg) ((gw_i w 64 ((nI e0).toNatClampNeg)) + 1))
    rw [nI_clamp (by omega)]
    have f64 : by_fr [64] [] w (sw_i w 64 e0 (gw_i w 64 e0 + 1)) := (by_fr.rf _ _ _).si (by decide) (by decide)
    refine hq _ (f64.up (by decide) (by decide)) (by_S_no hw h he f64 (fun k => ?_))
    rw [gs_ii]
    by_cases c : k = e0
    · rw [if_pos ⟨rfl, c⟩, if_pos c]
    · rw [if_neg (fun q => c q.2), if_neg c]
  | inr p =>
    rw [e] at hq
    obtain ⟨er, eso⟩ := br_ref_inr e
    obtain ⟨hr, hp1, ha, hbc, hu3⟩ := br_res_inr hs hu er
    refine br_t rfl ⟨Q, ?_, fun _ _ h => h⟩
    rw [ha, ← hp1]
    exact ys_act (d := d) hw h hr (fun z1 z2 => hbc (by rw [← hp1]; exact z1) (by rw [← hp1]; exact z2)) (fun z => by rw [(hu3 (by rw [← hp1]; exact z)).1]; exact hv (by rw [← hp1]; exact z)) hq
theorem ys_try {Q : bw_W → Prop} {K : Nat} {S : bm_S} {s : Nat} {a b c : Int32} {v : Int64} {u : List Nat} (hw : bm_wfS K S) (h : by_S S w) (hs : s ≤ 4) (hu : bm_ok u) (hv : s = 3 → v = by_w u) (hq : ∀ w', by_fr by_al by_aff w w' → by_S (st_act S false (br_ref (st_X S) (st_N S) s a b c u)) w' → Q w') : bw_rv E (d + 10) mX12_tryOne [.ref 50, .int (nI s), .int a, .int b, .int c, .long v] w Q := by
  have hx := hw.2.1
  refine wfX12_tryOne ⟨fun v w3 => br_code (br_ref (st_X S) (st_N S) s a b c u) = v ∧ w = w3, ys_whyNot (d := d + 6) h.2.1 (by_N_iff.mpr h.2.2.1.1) hw.2.2.1.1 hx hs hu hv ⟨rfl, rfl⟩, ?_⟩
  rintro _ _ ⟨rfl, rfl⟩
  cases e : br_ref (st_X S) (st_N S) s a b c u with
  | inl e0 =>
    have he := br_ref_inl e
    rw [e] at hq
    exact br_nt (nI_ne_m1 (by omega)) (hq w (by_fr.rf _ _ _) h)
  | inr p =>
    rw [e] at hq
    obtain ⟨er, eso⟩ := br_ref_inr e
    obtain ⟨hr, hp1, ha, hbc, hu3⟩ := br_res_inr hs hu er
    refine br_nf rfl ⟨fun _ w6 => Q w6, ?_, fun _ _ h => h⟩
    rw [ha, ← hp1]
    exact ys_act (d := d) hw h hr (fun z1 z2 => hbc (by rw [← hp1]; exact z1) (by rw [← hp1]; exact z2)) (fun z => by rw [(hu3 (by rw [← hp1]; exact z)).1]; exact hv (by rw [← hp1]; exact z)) (fun w' f g => hq w' f g)
end MACT2
