/-! scripts: the class's reader; the reference's -/
theorem bm_p_app {L : List bm_P} {p : bm_P} {j : Nat} : bm_p (L ++ [p]) j = if j < L.length then bm_p L j else if j = L.length then p else (0, 0, 0, 0, []) := by
  unfold bm_p
  rw [List.getD_eq_getElem?_getD, List.getD_eq_getElem?_getD]
  split
  · rename_i h; rw [List.getElem?_append_left h]
  · rename_i h
    rw [List.getElem?_append_right (by omega)]
    split
    · rename_i e; subst e; simp
    · rename_i e
      obtain ⟨k, hk⟩ : ∃ k, j - L.length = k + 1 := ⟨j - L.length - 1, by omega⟩
      rw [hk]; rfl
def bx_sl (n : Nat) : List Nat := 3 :: (78 + n) :: (List.range 12).map (fun i => 88 + 12 * n + i)
theorem bx_sl_mem {n c : Nat} : c ∈ bx_sl n ↔ c = 3 ∨ c = 78 + n ∨ (88 + 12 * n ≤ c ∧ c < 100 + 12 * n) := by
  unfold bx_sl
  rw [List.mem_cons, List.mem_cons, List.mem_map]
  constructor
  · rintro (h | h | ⟨i, h1, h2⟩)
    · exact Or.inl h
    · exact Or.inr (Or.inl h)
    · have := List.mem_range.mp h1
      exact Or.inr (Or.inr (by omega))
  · rintro (h | h | h)
    · exact Or.inl h
    · exact Or.inr (Or.inl h)
    · exact Or.inr (Or.inr ⟨c - (88 + 12 * n), List.mem_range.mpr (by omega), by omega⟩)
/-- the steps that were read -/
def bx_got (n : Nat) (w : bw_W) : Nat ⊕ List bm_P → Prop
  | .inl _ => True
  | .inr L => gw_i w (78 + n) 0 = nI L.length ∧ ∀ i, i < L.length → bx_st (bm_p L i) (88 + 12 * n + i) w
section XFF
variable {E : bw_E} {d : Nat} {w : bw_W} {t : List Nat}
theorem xs_ffS {Q : Int32 → bw_W → Prop} {n : Nat} (hn : n < 5) (ht : bm_wfT t) (hT : bx_T t w) (hq : ∀ w', bw_fr (bx_sl n) w w' → bx_got n w' (bu_scr t 12 (bm_sk t 0) []) → Q (br_scr (bu_scr t 12 (bm_sk t 0) [])) w') : bw_ri E (d + 8) mX6_findFault [.ref 17, .ref (78 + n)] w Q := by
  have h480 := ht.1
  have s7 := bm_sc78 n hn
  generalize hR : bu_scr t 12 (bm_sk t 0) [] = R at hq
  refine wfX6_findFault s7.1 ?_
  have key : ∀ m i q acc (w' : bw_W), i + m = 12 → m ≠ 0 → acc.length = i → bx_C t q w' → bw_fr (bx_sl n) w w' → (∀ j, j < i → bx_st (bm_p acc j) (88 + 12 * n + j) w') → R = bu_scr t m q acc → bw_G E (d + 8) mX6_findFault 9 [some (.ref 17), some (.ref (78 + n)), some (.int (nI i))] [] w' (bw_qi Q) := by
    intro m
    induction m with
    | zero => intro i q acc w' _ h0; exact absurd rfl h0
    | succ m ih =>
      intro i q acc w' hi _ hl hC f' hst hgo
      have hsp := bm_sc88' (n := n) (i := i) hn (by omega)
      have hT' : bx_T t w' := hT.fr f' (fun q => by have := bx_sl_mem.mp q; omega) (fun q => by have := bx_sl_mem.mp q; omega)
      refine wfX6_findFault_9 s7.1 (br_f (nI_ge (a := i) (b := 12) (by omega) (by decide)) ?_)
      rw [s7.2.1, nI_clamp (by omega), bm_sc83 n hn i (by omega)]
      refine ⟨s7.2.2, bm_in (by omega) (by decide), fun b w5 => bw_fr [3, 88 + 12 * n + i] w' w5 ∧ bx_q t w5 (bu_step t q).2 b ∧ (b = true → bx_st (bu_step t q).1 (88 + 12 * n + i) w5), xs_readStep (d := d) hsp ht hT' hC (fun b w'' f g k => ⟨f, g, k⟩), ?_⟩
      rintro b w5 ⟨f5, q5, s5⟩
      have f5' : bw_fr (bx_sl n) w w5 := f'.tr (f5.up (fun c hc => by
        rcases List.mem_cons.mp hc with z | z
        · exact bx_sl_mem.mpr (Or.inl z)
        · exact bx_sl_mem.mpr (Or.inr (Or.inr (by rw [List.mem_singleton.mp z]; omega)))))
      rw [bu_scr] at hgo
      cases e : (bu_step t q).2 with
      | inl e0 =>
        rw [e] at q5 hgo
        obtain ⟨rfl, g33⟩ := q5
        refine ⟨fun z => absurd z br_ft, fun _ => ?_⟩
        rw [g33]
        rw [hgo] at hq
        exact hq w5 f5' trivial
      | inr q' =>
        rw [e] at q5 hgo
        obtain ⟨rfl, c5⟩ := q5
        have s5' := s5 rfl
        have hpl := c5.pl
        dsimp only at hgo
        refine ⟨fun _ => ?_, fun z => absurd z br_tf⟩
        rw [nI_1]
        generalize hw6 : sw_i w5 (78 + n) 0 (nI (i + 1)) = w6
        have f6 : bw_fr [78 + n] w5 w6 := by rw [← hw6]; exact (bw_fr.rf _ _).si (by simp)
        have f6' : bw_fr (bx_sl n) w w6 := f5'.tr (f6.up (fun c hc => bx_sl_mem.mpr (Or.inr (Or.inl (List.mem_singleton.mp hc)))))
        have c6 : bx_C t q' w6 := c5.fr f6 (fun z => by have := List.mem_singleton.mp z; omega)
        have hT6 : bx_T t w6 := hT.fr f6' (fun q => by have := bx_sl_mem.mp q; omega) (fun q => by have := bx_sl_mem.mp q; omega)
        have l6 : gw_i w6 (78 + n) 0 = nI (i + 1) := by rw [← hw6, gs_ii, if_pos ⟨rfl, rfl⟩]
        have st6 : ∀ j, j < i + 1 → bx_st (bm_p (acc ++ [(bu_step t q).1]) j) (88 + 12 * n + j) w6 := fun j hj => by
          rw [bm_p_app, hl]
          have nn : 88 + 12 * n + j ∉ [78 + n] := fun z => by have := List.mem_singleton.mp z; omega
          by_cases cj : j < i
          · rw [if_pos cj]
            refine ((hst j cj).fr f5 (fun z => ?_)).fr f6 nn
            rcases List.mem_cons.mp z with y | y
            · omega
            · have := List.mem_singleton.mp y; omega
          · have ej : j = i := by omega
            rw [if_neg cj, if_pos ej, ej]
            exact s5'.fr f6 (by rw [← ej]; exact nn)
        have ll : (acc ++ [(bu_step t q).1]).length = i + 1 := by rw [List.length_append, hl]; rfl
        refine ⟨fun v w8 => v = decide (t.length ≤ q') ∧ w8 = sw_i w6 3 1 (nI q'), xs_atEnd (d := d + 6) ht hT6 c6 ⟨rfl, rfl⟩, ?_⟩
        rintro _ _ ⟨rfl, rfl⟩
        have f8 : bw_fr [3] w6 (sw_i w6 3 1 (nI q')) := (bw_fr.rf _ _).si (by decide)
        have up3 : ∀ c, c ∈ [3] → c ∈ bx_sl n := fun c hc => bx_sl_mem.mpr (Or.inl (List.mem_singleton.mp hc))
        have f8' := f6'.tr (f8.up up3)
        have a8 : gw_i (sw_i w6 3 1 (nI q')) 3 1 = nI q' := by rw [gs_ii, if_pos ⟨rfl, rfl⟩]
        have l8 : gw_i (sw_i w6 3 1 (nI q')) (78 + n) 0 = nI (i + 1) := by rw [f8.i (fun z => by have := List.mem_singleton.mp z; omega)]; exact l6
        have st8 : ∀ j, j < i + 1 → bx_st (bm_p (acc ++ [(bu_step t q).1]) j) (88 + 12 * n + j) (sw_i w6 3 1 (nI q')) := fun j hj => (st6 j hj).fr f8 (fun z => by have := List.mem_singleton.mp z; omega)
        by_cases ce : t.length ≤ q'
        · rw [if_pos ce] at hgo
          rw [decide_eq_true ce]
          refine ⟨fun z => absurd z br_tf, fun _ => ?_⟩
          rw [hgo] at hq
          exact hq _ f8' ⟨by rw [l8, ll], fun j hj => st8 j (by rw [ll] at hj; exact hj)⟩
        · rw [if_neg ce] at hgo
          rw [decide_eq_false ce]
          refine ⟨fun _ => ?_, fun z => absurd z br_ft⟩
          rw [l8, a8, show (12 : Int32) = nI 12 from rfl, nI_eq (by omega) (by decide)]
          refine ⟨fun z => ?_, fun z => ?_⟩
          · rw [if_pos (Or.inl (by omega))] at hgo
            rw [hgo] at hq
            exact hq _ f8' trivial
          · refine ⟨fun v w11 => v = nI (bm_b t q') ∧ w11 = sw_i w6 3 1 (nI q'), xs_sign (d := d + 6) ht (hT6.fr f8 (by decide) (by decide)) (bx_C_at hpl.1 hpl.2 a8) ⟨rfl, sw_self a8⟩, ?_⟩
            rintro _ _ ⟨rfl, rfl⟩
            have hb := bm_b_lt q' ht
            rw [a8, nI_1, show (59 : Int32) = nI 59 from rfl, nI_eq (by omega) (by decide)]
            refine ⟨fun y => ?_, fun y => ?_⟩
            · rw [if_neg (fun x => x.elim (fun x => z (by omega)) (fun x => x y))] at hgo
              rw [sw_ii]
              have f11 : bw_fr [3] w6 (sw_i w6 3 1 (nI (q' + 1))) := (bw_fr.rf _ _).si (by decide)
              refine ih (i + 1) (bm_sk t (q' + 1)) _ _ (by omega) (by omega) ll ⟨q' + 1, by rw [gs_ii, if_pos ⟨rfl, rfl⟩], by omega, rfl⟩ (f6'.tr (f11.up up3)) (fun j hj => (st6 j hj).fr f11 (fun z => by have := List.mem_singleton.mp z; omega)) hgo
            · rw [if_pos (Or.inr y)] at hgo
              rw [hgo] at hq
              exact hq _ f8' trivial
  exact key 12 0 (bm_sk t 0) [] _ rfl (by decide) rfl ⟨0, by rw [gs_ii, if_pos ⟨rfl, rfl⟩]; rfl, Nat.zero_le _, rfl⟩ ((bw_fr.rf _ _).si (bx_sl_mem.mpr (Or.inl rfl))) (fun j hj => absurd hj (Nat.not_lt_zero j)) hR.symm
end XFF
/-! the reference -/
def by_M (t : List Nat) (w : bw_W) : Nat ⊕ Nat → Prop
  | .inl e => gw_i w 50 10 = nI e
  | .inr q => gw_i w 50 10 = -1 ∧ by_C t q w
abbrev by_tw : List Nat := [10, 3, 4, 5, 6, 7, 8, 9, 11]
section MSCR
variable {E : bw_E} {d : Nat} {w : bw_W} {t : List Nat}
theorem ys_numU {Q : Int32 → bw_W → Prop} {m hi p : Nat} {μ : Nat ⊕ Nat} (hm : m ≤ 2) (hhi : hi < 1000) (ht : bm_wfT t) (hT : by_T t w) (hok : bu_ok t p μ) (hM : by_M t w μ) (hq : ∀ w', by_fr [] by_tw w w' → by_M t w' (bu_num t m hi μ).2 → Q (nI (bu_num t m hi μ).1) w') : bw_ri E (d + 3) mX12_numberOf [.ref 50, .int (nI m), .int (nI hi)] w Q := by
  have h480 := ht.1
  cases μ with
  | inl e =>
    have he : e ≤ t.length := hok
    have hM' : gw_i w 50 10 = nI e := hM
    exact ys_num0 (by rw [hM']; exact nI_ne_m1 (by omega)) (hq w (by_fr.rf _ _ _) hM)
  | inr q =>
    refine ys_num hm hhi ht hT hM.2 hM.1 (fun e w' f g => ?_) (fun v q' e w' f g => ?_)
    · rw [bu_num_n e] at hq; exact hq w' f g
    · rw [bu_num_s e] at hq
      exact hq w' (f.up (by decide) (by decide)) ⟨by rw [f.i5 (by decide)]; exact hM.1, g⟩
theorem ys_digU {Q : Int32 → bw_W → Prop} {hi p : Nat} {μ : Nat ⊕ Nat} (hhi : hi < 1000) (ht : bm_wfT t) (hT : by_T t w) (hok : bu_ok t p μ) (hM : by_M t w μ) (hq : ∀ w', by_fr [] by_tw w w' → by_M t w' (bu_num t 1 hi μ).2 → Q (nI (bu_num t 1 hi μ).1) w') : bw_ri E (d + 4) mX12_digit [.ref 50, .int (nI hi)] w Q := by
  have h480 := ht.1
  cases μ with
  | inl e =>
    have he : e ≤ t.length := hok
    have hM' : gw_i w 50 10 = nI e := hM
    exact ys_dig0 (by rw [hM']; exact nI_ne_m1 (by omega)) (hq w (by_fr.rf _ _ _) hM)
  | inr q =>
    refine ys_dig hhi ht hT hM.2 hM.1 (fun e w' f g => ?_) (fun v q' e w' f g => ?_)
    · rw [bu_num_n e] at hq; exact hq w' f g
    · rw [bu_num_s e] at hq
      exact hq w' (f.up (by decide) (by decide)) ⟨by rw [f.i5 (by decide)]; exact hM.1, g⟩
theorem ys_wordU {Q : Int64 → bw_W → Prop} {p : Nat} {μ : Nat ⊕ Nat} (ht : bm_wfT t) (hT : by_T t w) (hok : bu_ok t p μ) (hM : by_M t w μ) (hq : ∀ w', by_fr [] by_tw w w' → by_M t w' (bu_word t μ).2 → Q (by_w (bu_word t μ).1) w') : bw_rl E (d + 3) mX12_anyWord [.ref 50] w Q := by
  have h480 := ht.1
  cases μ with
  | inl e =>
    have he : e ≤ t.length := hok
    have hM' : gw_i w 50 10 = nI e := hM
    exact ys_any0 (by rw [hM']; exact nI_ne_m1 (by omega)) (hq w (by_fr.rf _ _ _) hM)
  | inr q =>
    refine ys_any ht hT hM.2 hM.1 (fun e w' f g => ?_) (fun u q' e w' f g => ?_)
    · rw [bu_word_n e] at hq; exact hq w' f g
    · rw [bu_word_s e] at hq
      exact hq w' (f.up (by decide) (by decide)) ⟨by rw [f.i5 (by decide)]; exact hM.1, g⟩
/-- whether it is a certain word -/
theorem yw_is {q k : Nat} {c : Int64} (hC : by_C t q w) (ht : bm_wfT t) (hw : gw_i w 50 10 = -1) (hk : bm_ok (bm_kw k)) (hc : c = by_w (bm_kw k)) : (((gw_i w 50 10) = (-1)) ∧ ((((gw_i w 50 4) = 1) ∧ (¬ (8 < (gw_i w 50 9)))) ∧ ((gw_l w 50 11) = c))) ↔ ∃ q', bp_word t q = some (bm_kw k, q') := by
  rw [by_C_word hC ht]
  constructor
  · rintro ⟨_, h1, h2⟩
    cases e : bp_word t q with
    | none => exact absurd e h1
    | some r =>
      obtain ⟨u, q'⟩ := r
      have := (by_C_ws hC e).1
      rw [h2, hc] at this
      have o := bp_word_some hC.2.1.1 e
      have eu := (by_w_eq hk o.1).mp this
      exact ⟨q', by rw [eu]⟩
  · rintro ⟨q', e⟩
    exact ⟨hw, by rw [e]; simp, by rw [hc]; exact (by_C_ws hC e).1⟩
theorem bm_kw_ok2 : ∀ k, k < 9 → (bm_kw k).length ≤ 8 ∧ ∀ x ∈ bm_kw k, 1 ≤ x ∧ x ≤ 26 := by decide
theorem ys_nextW {Q : bw_W → Prop} {q q' : Nat} {u : List Nat} (ht : bm_wfT t) (hT : by_T t w) (hC : by_C t q w) (e : bp_word t q = some (u, q')) (hq : ∀ w', by_fr [] by_tf w w' → by_C t q' w' → Q w') : bw_rv E (d + 2) mX12_next [.ref 50] w Q := by
  have o := bp_word_some hC.2.1.1 e
  refine ys_next ht hT (by_C_ws hC e).2 o.2.2.2.2.2.1 (fun w' f c => ?_)
  rw [← o.2.2.2.2.1] at c
  exact hq w' f c
theorem by_T.tw {w' : bw_W} {S : List Nat} (h : by_T t w) (hf : by_fr S by_tw w w') (hs : 51 ∉ S) : by_T t w' := h.fr hf hs (by decide)
theorem by_M.s {w' : bw_W} {μ : Nat ⊕ Nat} {S : List Nat} (h : by_M t w μ) (hf : by_fr S [] w w') : by_M t w' μ := by
  have h5 : ∀ k, gw_i w' 50 k = gw_i w 50 k := fun k => hf.i5 (by simp)
  have l5 : ∀ k, gw_l w' 50 k = gw_l w 50 k := fun k => hf.l5 (by simp)
  cases μ with
  | inl e => exact (h5 10).trans h
  | inr q =>
    refine ⟨(h5 10).trans h.1, ?_⟩
    have c := h.2
    unfold by_C at c ⊢
    simp only [h5, l5]
    exact c
theorem ys_readStep {Q : bw_W → Prop} {q k : Nat} (hk : k < 60) (ht : bm_wfT t) (hT : by_T t w) (hw : gw_i w 50 10 = -1) (hC : by_C t q w) (hq : ∀ w', by_fr [60, 61] by_tw w w' → (∀ j, j / 4 ≠ k → gw_i w' 60 j = gw_i w 60 j) → (∀ j, j ≠ k → gw_l w' 61 j = gw_l w 61 j) → by_M t w' (bu_step t q).2 → ((bu_step t q).2.isRight = true → by_st (bu_step t q).1 k w') → Q w') : bw_rv E (d + 5) mX12_readStep [.ref 50, .int (nI k)] w Q := by
  have h480 := ht.1
  have hpl := hC.2.1
  refine wfX12_readStep ?_
  rw [yw_is (k := 5) (c := 124995) hC ht hw (bm_kw_ok2 5 (by decide)) (by decide +kernel), yw_is (k := 6) (c := 2925313) hC ht hw (bm_kw_ok2 6 (by decide)) (by decide +kernel), yw_is (k := 7) (c := 283619009) hC ht hw (bm_kw_ok2 7 (by decide)) (by decide +kernel), yw_is (k := 1) (c := 129532) hC ht hw (bm_kw_ok2 1 (by decide)) (by decide +kernel), yw_is (k := 8) (c := 92275) hC ht hw (bm_kw_ok2 8 (by decide)) (by decide +kernel)]
  have bad : ∀ w1, w1 = w → (bu_step t q).2 = .inl q → Q (sw_i w 50 10 (if ¬ (gw_i w 50 10) = (-1) then (gw_i w 50 10) else (gw_i w 50 5))) := fun w1 _ e => by
    rw [if_neg (fun z => z hw), hC.1]
    refine hq _ ((by_fr.rf _ _ _).s5 (by decide)) (fun j _ => by rw [gs_ii, if_neg (by omega)]) (fun j _ => rfl) ?_ (fun z => by rw [e] at z; cases z)
    rw [e]
    show gw_i (sw_i w 50 10 (nI q)) 50 10 = nI q
    rw [gs_ii, if_pos ⟨rfl, rfl⟩]
  cases e : bp_word t q with
  | none =>
    have no : ∀ u, ¬ ∃ q', (none : Option (List Nat × Nat)) = some (u, q') := fun u z => by obtain ⟨q', h⟩ := z; cases h
    exact br_nt (no _) (br_nt (no _) (br_nt (no _) (br_nt (no _) (br_nt (no _) (bad w rfl (by unfold bu_step; rw [e]))))))
  | some r =>
    obtain ⟨u, q1⟩ := r
    have o := bp_word_some hpl.1 e
    have ok1 : bu_ok t q (.inr q1) := ⟨bp_word_pl hpl.1 e, o.2.2.2.2.2.2.2⟩
    have no : ∀ {v}, u ≠ v → ¬ ∃ q', some (u, q1) = some (v, q') := fun h z => by obtain ⟨q', y⟩ := z; cases y; exact h rfl
    have nx : ∀ {Q' : bw_W → Prop}, (∀ w', by_fr [] by_tf w w' → by_M t w' (.inr q1) → Q' w') → bw_rv E (d + 4) mX12_next [.ref 50] w Q' := fun h => ys_nextW (d := d + 2) ht hT hC e (fun w' f c => h w' f ⟨by rw [f.i5 (by decide)]; exact hw, c⟩)
    unfold bu_step at hq bad
    rw [e] at hq bad
    dsimp only at hq bad
    rw [nl_4, pk_mul, nl_1, nl_2, nl_3, nI_add, nI_add, nI_add, nI_clamp (show 4 * k < 2 ^ 31 by omega), nI_clamp (show 4 * k + 1 < 2 ^ 31 by omega), nI_clamp (show 4 * k + 2 < 2 ^ 31 by omega), nI_clamp (show 4 * k + 3 < 2 ^ 31 by omega), nI_clamp (show k < 2 ^ 31 by omega)]
    have i0 : vp_in (nI (4 * k)) 240 := bm_in (by omega) (by decide)
    have i1 : vp_in (nI (4 * k + 1)) 240 := bm_in (by omega) (by decide)
    have i2 : vp_in (nI (4 * k + 2)) 240 := bm_in (by omega) (by decide)
    have i3 : vp_in (nI (4 * k + 3)) 240 := bm_in (by omega) (by decide)
    have ik : vp_in (nI k) 60 := bm_in (by omega) (by decide)
    by_cases k5 : u = bm_kw 5
    · rw [if_pos k5] at hq
      refine br_nf ⟨q1, by rw [k5]⟩ ?_
      refine ⟨fun w3 => by_fr [] by_tf w w3 ∧ by_M t w3 (.inr q1), nx (fun w' f g => ⟨f, g⟩), ?_⟩
      rintro w3 ⟨f3, g3⟩
      have a0 : by_fr [60, 61] by_tw w (sw_i w3 60 (4 * k) 0) := (f3.up (by decide) (by decide)).si (by decide) (by decide)
      have o1 := bu_num_ok (m := 1) (hi := 2) ok1
      refine ⟨i0, fun v w7 => v = nI (bu_num t 1 2 (.inr q1)).1 ∧ by_fr [] by_tw (sw_i w3 60 (4 * k) 0) w7 ∧ by_M t w7 (bu_num t 1 2 (.inr q1)).2, ys_digU (d := d) (hi := 2) (by decide) ht (hT.tw a0 (by decide)) ok1 (g3.s (S := [60]) ((by_fr.rf _ _ _).si (by decide) (by decide))) (fun w' f g => ⟨rfl, f, g⟩), ?_⟩
      rintro _ w7 ⟨rfl, f7, g7⟩
      have a1 : by_fr [60, 61] by_tw w (sw_i w7 60 (4 * k + 1) (nI (bu_num t 1 2 (.inr q1)).1)) := (a0.tr (f7.up (by decide) (by decide))).si (by decide) (by decide)
      have o2 := bu_num_ok (m := 1) (hi := 9) o1.1
      refine ⟨i1, fun v w11 => v = nI (bu_num t 1 9 (bu_num t 1 2 (.inr q1)).2).1 ∧ by_fr [] by_tw (sw_i w7 60 (4 * k + 1) (nI (bu_num t 1 2 (.inr q1)).1)) w11 ∧ by_M t w11 (bu_num t 1 9 (bu_num t 1 2 (.inr q1)).2).2, ys_digU (d := d) (hi := 9) (by decide) ht (hT.tw a1 (by decide)) o1.1 (g7.s (S := [60]) ((by_fr.rf _ _ _).si (by decide) (by decide))) (fun w' f g => ⟨rfl, f, g⟩), ?_⟩
      rintro _ w11 ⟨rfl, f11, g11⟩
      have a2 : by_fr [60, 61] by_tw w (sw_i w11 60 (4 * k + 2) (nI (bu_num t 1 9 (bu_num t 1 2 (.inr q1)).2).1)) := (a1.tr (f11.up (by decide) (by decide))).si (by decide) (by decide)
      have o3 := bu_num_ok (m := 2) (hi := 99) o2.1
      refine ⟨i2, fun v w15 => v = nI (bu_num t 2 99 (bu_num t 1 9 (bu_num t 1 2 (.inr q1)).2).2).1 ∧ by_fr [] by_tw (sw_i w11 60 (4 * k + 2) (nI (bu_num t 1 9 (bu_num t 1 2 (.inr q1)).2).1)) w15 ∧ by_M t w15 (bu_num t 2 99 (bu_num t 1 9 (bu_num t 1 2 (.inr q1)).2).2).2, ys_numU (d := d + 1) (m := 2) (hi := 99) (by decide) (by decide) ht (hT.tw a2 (by decide)) o2.1 (g11.s (S := [60]) ((by_fr.rf _ _ _).si (by decide) (by decide))) (fun w' f g => ⟨rfl, f, g⟩), ?_⟩
      rintro _ w15 ⟨rfl, f15, g15⟩
      have a3 : by_fr [60, 61] by_tw w (sw_i w15 60 (4 * k + 3) (nI (bu_num t 2 99 (bu_num t 1 9 (bu_num t 1 2 (.inr q1)).2).2).1)) := (a2.tr (f15.up (by decide) (by decide))).si (by decide) (by decide)
      refine ⟨i3, ik, ?_⟩
      have aF : by_fr [60, 61] by_tw w (sw_l (sw_i w15 60 (4 * k + 3) (nI (bu_num t 2 99 (bu_num t 1 9 (bu_num t 1 2 (.inr q1)).2).2).1)) 61 k 0) := a3.sl (by decide) (by decide)
      refine hq _ aF (fun j hj => ?_) (fun j hj => ?_) (g15.s (S := [60, 61]) (((by_fr.rf _ _ _).si (by decide) (by decide)).sl (by decide) (by decide))) (fun _ => ⟨?_, ?_, ?_, ?_, ?_⟩)
      · rw [gs_il, gs_ii, if_neg (by omega), f15.i (by decide) (by decide), gs_ii, if_neg (by omega), f11.i (by decide) (by decide), gs_ii, if_neg (by omega), f7.i (by decide) (by decide), gs_ii, if_neg (by omega), f3.i (by decide) (by decide)]
      · rw [gs_ll, if_neg (fun z => hj z.2), gs_li, f15.l (by decide) (by decide), gs_li, f11.l (by decide) (by decide), gs_li, f7.l (by decide) (by decide), gs_li, f3.l (by decide) (by decide)]
      · rw [gs_il, gs_ii, if_neg (by omega), f15.i (by decide) (by decide), gs_ii, if_neg (by omega), f11.i (by decide) (by decide), gs_ii, if_neg (by omega), f7.i (by decide) (by decide), gs_ii, if_pos ⟨rfl, rfl⟩]; rfl
      · rw [gs_il, gs_ii, if_neg (by omega), f15.i (by decide) (by decide), gs_ii, if_neg (by omega), f11.i (by decide) (by decide), gs_ii, if_pos ⟨rfl, rfl⟩]
      · rw [gs_il, gs_ii, if_neg (by omega), f15.i (by decide) (by decide), gs_ii, if_pos ⟨rfl, rfl⟩]; rfl
      · rw [gs_il, gs_ii, if_pos ⟨rfl, rfl⟩]; rfl
      · rw [gs_ll, if_pos ⟨rfl, rfl⟩]; rfl
    rw [if_neg k5] at hq bad
    refine br_nt (no k5) ?_
    by_cases k6 : u = bm_kw 6
    · rw [if_pos k6] at hq
      refine br_nf ⟨q1, by rw [k6]⟩ ?_
      refine ⟨fun w3 => by_fr [] by_tf w w3 ∧ by_M t w3 (.inr q1), nx (fun w' f g => ⟨f, g⟩), ?_⟩
      rintro w3 ⟨f3, g3⟩
      have a0 : by_fr [60, 61] by_tw w (sw_i w3 60 (4 * k) 1) := (f3.up (by decide) (by decide)).si (by decide) (by decide)
      have o1 := bu_num_ok (m := 1) (hi := 2) ok1
      refine ⟨i0, fun v w7 => v = nI (bu_num t 1 2 (.inr q1)).1 ∧ by_fr [] by_tw (sw_i w3 60 (4 * k) 1) w7 ∧ by_M t w7 (bu_num t 1 2 (.inr q1)).2, ys_digU (d := d) (hi := 2) (by decide) ht (hT.tw a0 (by decide)) ok1 (g3.s (S := [60]) ((by_fr.rf _ _ _).si (by decide) (by decide))) (fun w' f g => ⟨rfl, f, g⟩), ?_⟩
      rintro _ w7 ⟨rfl, f7, g7⟩
      have a1 : by_fr [60, 61] by_tw w (sw_i w7 60 (4 * k + 1) (nI (bu_num t 1 2 (.inr q1)).1)) := (a0.tr (f7.up (by decide) (by decide))).si (by decide) (by decide)
      refine ⟨i1, i2, i3, ik, ?_⟩
      have aF : by_fr [60, 61] by_tw w (sw_l (sw_i (sw_i (sw_i w7 60 (4 * k + 1) (nI (bu_num t 1 2 (.inr q1)).1)) 60 (4 * k + 2) (-1000000)) 60 (4 * k + 3) (-1000000)) 61 k 0) := ((a1.si (by decide) (by decide)).si (by decide) (by decide)).sl (by decide) (by decide)
      refine hq _ aF (fun j hj => ?_) (fun j hj => ?_) (g7.s (S := [60, 61]) (((((by_fr.rf _ _ _).si (by decide) (by decide)).si (by decide) (by decide)).si (by decide) (by decide)).sl (by decide) (by decide))) (fun _ => ⟨?_, ?_, ?_, ?_, ?_⟩)
      · rw [gs_il, gs_ii, if_neg (by omega), gs_ii, if_neg (by omega), gs_ii, if_neg (by omega), f7.i (by decide) (by decide), gs_ii, if_neg (by omega), f3.i (by decide) (by decide)]
      · rw [gs_ll, if_neg (fun z => hj z.2), gs_li, gs_li, gs_li, f7.l (by decide) (by decide), gs_li, f3.l (by decide) (by decide)]
      · rw [gs_il, gs_ii, if_neg (by omega), gs_ii, if_neg (by omega), gs_ii, if_neg (by omega), f7.i (by decide) (by decide), gs_ii, if_pos ⟨rfl, rfl⟩]; rfl
      · rw [gs_il, gs_ii, if_neg (by omega), gs_ii, if_neg (by omega), gs_ii, if_pos ⟨rfl, rfl⟩]
      · rw [gs_il, gs_ii, if_neg (by omega), gs_ii, if_pos ⟨rfl, rfl⟩]; rfl
      · rw [gs_il, gs_ii, if_pos ⟨rfl, rfl⟩]; rfl
      · rw [gs_ll, if_pos ⟨rfl, rfl⟩]; rfl
    rw [if_neg k6] at hq bad
    refine br_nt (no k6) ?_
    by_cases k7 : u = bm_kw 7
    · rw [if_pos k7] at hq
      refine br_nf ⟨q1, by rw [k7]⟩ ?_
      refine ⟨fun w3 => by_fr [] by_tf w w3 ∧ by_M t w3 (.inr q1), nx (fun w' f g => ⟨f, g⟩), ?_⟩
      rintro w3 ⟨f3, g3⟩
      have a0 : by_fr [60, 61] by_tw w (sw_i w3 60 (4 * k) 2) := (f3.up (by decide) (by decide)).si (by decide) (by decide)
      have o1 := bu_num_ok (m := 1) (hi := 1) ok1
      refine ⟨i0, fun v w7 => v = nI (bu_num t 1 1 (.inr q1)).1 ∧ by_fr [] by_tw (sw_i w3 60 (4 * k) 2) w7 ∧ by_M t w7 (bu_num t 1 1 (.inr q1)).2, ys_digU (d := d) (hi := 1) (by decide) ht (hT.tw a0 (by decide)) ok1 (g3.s (S := [60]) ((by_fr.rf _ _ _).si (by decide) (by decide))) (fun w' f g => ⟨rfl, f, g⟩), ?_⟩
      rintro _ w7 ⟨rfl, f7, g7⟩
      have a1 : by_fr [60, 61] by_tw w (sw_i w7 60 (4 * k + 1) (nI (bu_num t 1 1 (.inr q1)).1)) := (a0.tr (f7.up (by decide) (by decide))).si (by decide) (by decide)
      refine ⟨i1, i2, i3, ik, ?_⟩
      have aF : by_fr [60, 61] by_tw w (sw_l (sw_i (sw_i (sw_i w7 60 (4 * k + 1) (nI (bu_num t 1 1 (.inr q1)).1)) 60 (4 * k + 2) (-1000000)) 60 (4 * k + 3) (-1000000)) 61 k 0) := ((a1.si (by decide) (by decide)).si (by decide) (by decide)).sl (by decide) (by decide)
      refine hq _ aF (fun j hj => ?_) (fun j hj => ?_) (g7.s (S := [60, 61]) (((((by_fr.rf _ _ _).si (by decide) (by decide)).si (by decide) (by decide)).si (by decide) (by decide)).sl (by decide) (by decide))) (fun _ => ⟨?_, ?_, ?_, ?_, ?_⟩)
      · rw [gs_il, gs_ii, if_neg (by omega), gs_ii, if_neg (by omega), gs_ii, if_neg (by omega), f7.i (by decide) (by decide), gs_ii, if_neg (by omega), f3.i (by decide) (by decide)]
      · rw [gs_ll, if_neg (fun z => hj z.2), gs_li, gs_li, gs_li, f7.l (by decide) (by decide), gs_li, f3.l (by decide) (by decide)]
      · rw [gs_il, gs_ii, if_neg (by omega), gs_ii, if_neg (by omega), gs_ii, if_neg (by omega), f7.i (by decide) (by decide), gs_ii, if_pos ⟨rfl, rfl⟩]; rfl
      · rw [gs_il, gs_ii, if_neg (by omega), gs_ii, if_neg (by omega), gs_ii, if_pos ⟨rfl, rfl⟩]
      · rw [gs_il, gs_ii, if_neg (by omega), gs_ii, if_pos ⟨rfl, rfl⟩]; rfl
      · rw [gs_il, gs_ii, if_pos ⟨rfl, rfl⟩]; rfl
      · rw [gs_ll, if_pos ⟨rfl, rfl⟩]; rfl
    rw [if_neg k7] at hq bad
    refine br_nt (no k7) ?_
    by_cases k1 : u = bm_kw 1
    · rw [if_pos k1] at hq
      refine br_nf ⟨q1, by rw [k1]⟩ ?_
      refine ⟨fun w3 => by_fr [] by_tf w w3 ∧ by_M t w3 (.inr q1), nx (fun w' f g => ⟨f, g⟩), ?_⟩
      rintro w3 ⟨f3, g3⟩
      have a0 : by_fr [60, 61] by_tw w (sw_i w3 60 (4 * k) 3) := (f3.up (by decide) (by decide)).si (by decide) (by decide)
      have o1 := bu_num_ok (m := 1) (hi := 9) ok1
      refine ⟨i0, fun v w7 => v = nI (bu_num t 1 9 (.inr q1)).1 ∧ by_fr [] by_tw (sw_i w3 60 (4 * k) 3) w7 ∧ by_M t w7 (bu_num t 1 9 (.inr q1)).2, ys_digU (d := d) (hi := 9) (by decide) ht (hT.tw a0 (by decide)) ok1 (g3.s (S := [60]) ((by_fr.rf _ _ _).si (by decide) (by decide))) (fun w' f g => ⟨rfl, f, g⟩), ?_⟩
      rintro _ w7 ⟨rfl, f7, g7⟩
      have a1 : by_fr [60, 61] by_tw w (sw_i w7 60 (4 * k + 1) (nI (bu_num t 1 9 (.inr q1)).1)) := (a0.tr (f7.up (by decide) (by decide))).si (by decide) (by decide)
      have o2 := bu_num_ok (m := 1) (hi := 3) o1.1
      refine ⟨i1, fun v w11 => v = nI (bu_num t 1 3 (bu_num t 1 9 (.inr q1)).2).1 ∧ by_fr [] by_tw (sw_i w7 60 (4 * k + 1) (nI (bu_num t 1 9 (.inr q1)).1)) w11 ∧ by_M t w11 (bu_num t 1 3 (bu_num t 1 9 (.inr q1)).2).2, ys_digU (d := d) (hi := 3) (by decide) ht (hT.tw a1 (by decide)) o1.1 (g7.s (S := [60]) ((by_fr.rf _ _ _).si (by decide) (by decide))) (fun w' f g => ⟨rfl, f, g⟩), ?_⟩
      rintro _ w11 ⟨rfl, f11, g11⟩
      have a2 : by_fr [60, 61] by_tw w (sw_i w11 60 (4 * k + 2) (nI (bu_num t 1 3 (bu_num t 1 9 (.inr q1)).2).1)) := (a1.tr (f11.up (by decide) (by decide))).si (by decide) (by decide)
      have o3 := bu_num_ok (m := 1) (hi := 1) o2.1
      refine ⟨i2, fun v w15 => v = nI (bu_num t 1 1 (bu_num t 1 3 (bu_num t 1 9 (.inr q1)).2).2).1 ∧ by_fr [] by_tw (sw_i w11 60 (4 * k + 2) (nI (bu_num t 1 3 (bu_num t 1 9 (.inr q1)).2).1)) w15 ∧ by_M t w15 (bu_num t 1 1 (bu_num t 1 3 (bu_num t 1 9 (.inr q1)).2).2).2, ys_digU (d := d) (hi := 1) (by decide) ht (hT.tw a2 (by decide)) o2.1 (g11.s (S := [60]) ((by_fr.rf _ _ _).si (by decide) (by decide))) (fun w' f g => ⟨rfl, f, g⟩), ?_⟩
      rintro _ w15 ⟨rfl, f15, g15⟩
      have a3 : by_fr [60, 61] by_tw w (sw_i w15 60 (4 * k + 3) (nI (bu_num t 1 1 (bu_num t 1 3 (bu_num t 1 9 (.inr q1)).2).2).1)) := (a2.tr (f15.up (by decide) (by decide))).si (by decide) (by decide)
      have o4 := bu_word_ok o3.1
      refine ⟨i3, fun v w19 => v = by_w (bu_word t (bu_num t 1 1 (bu_num t 1 3 (bu_num t 1 9 (.inr q1)).2).2).2).1 ∧ by_fr [] by_tw (sw_i w15 60 (4 * k + 3) (nI (bu_num t 1 1 (bu_num t 1 3 (bu_num t 1 9 (.inr q1)).2).2).1)) w19 ∧ by_M t w19 (bu_word t (bu_num t 1 1 (bu_num t 1 3 (bu_num t 1 9 (.inr q1)).2).2).2).2, ys_wordU (d := d + 1) ht (hT.tw a3 (by decide)) o3.1 (g15.s (S := [60]) ((by_fr.rf _ _ _).si (by decide) (by decide))) (fun w' f g => ⟨rfl, f, g⟩), ?_⟩
      rintro _ w19 ⟨rfl, f19, g19⟩
      refine ⟨ik, ?_⟩
      have aF : by_fr [60, 61] by_tw w (sw_l w19 61 k (by_w (bu_word t (bu_num t 1 1 (bu_num t 1 3 (bu_num t 1 9 (.inr q1)).2).2).2).1)) := (a3.tr (f19.up (by decide) (by decide))).sl (by decide) (by decide)
      refine hq _ aF (fun j hj => ?_) (fun j hj => ?_) (g19.s (S := [61]) ((by_fr.rf _ _ _).sl (by decide) (by decide))) (fun _ => ⟨?_, ?_, ?_, ?_, ?_⟩)
      · rw [gs_il, f19.i (by decide) (by decide), gs_ii, if_neg (by omega), f15.i (by decide) (by decide), gs_ii, if_neg (by omega), f11.i (by decide) (by decide), gs_ii, if_neg (by omega), f7.i (by decide) (by decide), gs_ii, if_neg (by omega), f3.i (by decide) (by decide)]
      · rw [gs_ll, if_neg (fun z => hj z.2), f19.l (by decide) (by decide), gs_li, f15.l (by decide) (by decide), gs_li, f11.l (by decide) (by decide), gs_li, f7.l (by decide) (by decide), gs_li, f3.l (by decide) (by decide)]
      · rw [gs_il, f19.i (by decide) (by decide), gs_ii, if_neg (by omega), f15.i (by decide) (by decide), gs_ii, if_neg (by omega), f11.i (by decide) (by decide), gs_ii, if_neg (by omega), f7.i (by decide) (by decide), gs_ii, if_pos ⟨rfl, rfl⟩]; rfl
      · rw [gs_il, f19.i (by decide) (by decide), gs_ii, if_neg (by omega), f15.i (by decide) (by decide), gs_ii, if_neg (by omega), f11.i (by decide) (by decide), gs_ii, if_pos ⟨rfl, rfl⟩]
      · rw [gs_il, f19.i (by decide) (by decide), gs_ii, if_neg (by omega), f15.i (by decide) (by decide), gs_ii, if_pos ⟨rfl, rfl⟩]; rfl
      · rw [gs_il, f19.i (by decide) (by decide), gs_ii, if_pos ⟨rfl, rfl⟩]; rfl
      · rw [gs_ll, if_pos ⟨rfl, rfl⟩]
    rw [if_neg k1] at hq bad
    refine br_nt (no k1) ?_
    by_cases k8 : u = bm_kw 8
    · rw [if_pos k8] at hq
      refine br_nf ⟨q1, by rw [k8]⟩ ?_
      refine ⟨fun w3 => by_fr [] by_tf w w3 ∧ by_M t w3 (.inr q1), nx (fun w' f g => ⟨f, g⟩), ?_⟩
      rintro w3 ⟨f3, g3⟩
      have a0 : by_fr [60, 61] by_tw w (sw_i w3 60 (4 * k) 4) := (f3.up (by decide) (by decide)).si (by decide) (by decide)
      have o1 := bu_num_ok (m := 1) (hi := 9) ok1
      refine ⟨i0, fun v w7 => v = nI (bu_num t 1 9 (.inr q1)).1 ∧ by_fr [] by_tw (sw_i w3 60 (4 * k) 4) w7 ∧ by_M t w7 (bu_num t 1 9 (.inr q1)).2, ys_digU (d := d) (hi := 9) (by decide) ht (hT.tw a0 (by decide)) ok1 (g3.s (S := [60]) ((by_fr.rf _ _ _).si (by decide) (by decide))) (fun w' f g => ⟨rfl, f, g⟩), ?_⟩
      rintro _ w7 ⟨rfl, f7, g7⟩
      have a1 : by_fr [60, 61] by_tw w (sw_i w7 60 (4 * k + 1) (nI (bu_num t 1 9 (.inr q1)).1)) := (a0.tr (f7.up (by decide) (by decide))).si (by decide) (by decide)
      have o2 := bu_num_ok (m := 1) (hi := 3) o1.1
      refine ⟨i1, fun v w11 => v = nI (bu_num t 1 3 (bu_num t 1 9 (.inr q1)).2).1 ∧ by_fr [] by_tw (sw_i w7 60 (4 * k + 1) (nI (bu_num t 1 9 (.inr q1)).1)) w11 ∧ by_M t w11 (bu_num t 1 3 (bu_num t 1 9 (.inr q1)).2).2, ys_digU (d := d) (hi := 3) (by decide) ht (hT.tw a1 (by decide)) o1.1 (g7.s (S := [60]) ((by_fr.rf _ _ _).si (by decide) (by decide))) (fun w' f g => ⟨rfl, f, g⟩), ?_⟩
      rintro _ w11 ⟨rfl, f11, g11⟩
      have a2 : by_fr [60, 61] by_tw w (sw_i w11 60 (4 * k + 2) (nI (bu_num t 1 3 (bu_num t 1 9 (.inr q1)).2).1)) := (a1.tr (f11.up (by decide) (by decide))).si (by decide) (by decide)
      have o3 := bu_num_ok (m := 1) (hi := 1) o2.1
      refine ⟨i2, fun v w15 => v = nI (bu_num t 1 1 (bu_num t 1 3 (bu_num t 1 9 (.inr q1)).2).2).1 ∧ by_fr [] by_tw (sw_i w11 60 (4 * k + 2) (nI (bu_num t 1 3 (bu_num t 1 9 (.inr q1)).2).1)) w15 ∧ by_M t w15 (bu_num t 1 1 (bu_num t 1 3 (bu_num t 1 9 (.inr q1)).2).2).2, ys_digU (d := d) (hi := 1) (by decide) ht (hT.tw a2 (by decide)) o2.1 (g11.s (S := [60]) ((by_fr.rf _ _ _).si (by decide) (by decide))) (fun w' f g => ⟨rfl, f, g⟩), ?_⟩
      rintro _ w15 ⟨rfl, f15, g15⟩
      have a3 : by_fr [60, 61] by_tw w (sw_i w15 60 (4 * k + 3) (nI (bu_num t 1 1 (bu_num t 1 3 (bu_num t 1 9 (.inr q1)).2).2).1)) := (a2.tr (f15.up (by decide) (by decide))).si (by decide) (by decide)
      refine ⟨i3, ik, ?_⟩
      have aF : by_fr [60, 61] by_tw w (sw_l (sw_i w15 60 (4 * k + 3) (nI (bu_num t 1 1 (bu_num t 1 3 (bu_num t 1 9 (.inr q1)).2).2).1)) 61 k 0) := a3.sl (by decide) (by decide)
      refine hq _ aF (fun j hj => ?_) (fun j hj => ?_) (g15.s (S := [60, 61]) (((by_fr.rf _ _ _).si (by decide) (by decide)).sl (by decide) (by decide))) (fun _ => ⟨?_, ?_, ?_, ?_, ?_⟩)
      · rw [gs_il, gs_ii, if_neg (by omega), f15.i (by decide) (by decide), gs_ii, if_neg (by omega), f11.i (by decide) (by decide), gs_ii, if_neg (by omega), f7.i (by decide) (by decide), gs_ii, if_neg (by omega), f3.i (by decide) (by decide)]
      · rw [gs_ll, if_neg (fun z => hj z.2), gs_li, f15.l (by decide) (by decide), gs_li, f11.l (by decide) (by decide), gs_li, f7.l (by decide) (by decide), gs_li, f3.l (by decide) (by decide)]
      · rw [gs_il, gs_ii, if_neg (by omega), f15.i (by decide) (by decide), gs_ii, if_neg (by omega), f11.i (by decide) (by decide), gs_ii, if_neg (by omega), f7.i (by decide) (by decide), gs_ii, if_pos ⟨rfl, rfl⟩]; rfl
      · rw [gs_il, gs_ii, if_neg (by omega), f15.i (by decide) (by decide), gs_ii, if_neg (by omega), f11.i (by decide) (by decide), gs_ii, if_pos ⟨rfl, rfl⟩]
      · rw [gs_il, gs_ii, if_neg (by omega), f15.i (by decide) (by decide), gs_ii, if_pos ⟨rfl, rfl⟩]; rfl
      · rw [gs_il, gs_ii, if_pos ⟨rfl, rfl⟩]; rfl
      · rw [gs_ll, if_pos ⟨rfl, rfl⟩]; rfl
    rw [if_neg k8] at hq bad
    refine br_nt (no k8) ?_
    exact bad w rfl rfl
end MSCR
