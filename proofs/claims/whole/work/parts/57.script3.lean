/-! scripts of the reference -/
def by_got (n : Nat) (w : bw_W) : Nat ⊕ List bm_P → Prop
  | .inl _ => True
  | .inr L => gw_i w 62 n = nI L.length ∧ ∀ i, i < L.length → by_st (bm_p L i) (12 * n + i) w
section MSCR3
variable {E : bw_E} {d : Nat} {w : bw_W} {t : List Nat}
theorem by_C_sign {q : Nat} (hC : by_C t q w) (ht : bm_wfT t) {c : Nat} (hc0 : 0 < c) (hc : c < 48 ∨ (57 < c ∧ c < 97)) : ((gw_i w 50 4 = 3) ∧ (gw_i w 50 8 = nI c)) ↔ bm_b t q = c := by
  obtain ⟨h1, h2, h3, h4, h5, h6⟩ := hC
  have hb := bm_b_lt q ht
  constructor
  · rintro ⟨a, b⟩
    by_cases c1 : t.length ≤ q
    · rw [(h3 c1).1] at a; exact absurd a (by decide)
    · cases c2 : bm_lt (bm_b t q) with
      | true => rw [(h4 c2).1] at a; exact absurd a (by decide)
      | false =>
        cases c3 : bm_dg (bm_b t q) with
        | true => rw [(h5 c3).1] at a; exact absurd a (by decide)
        | false =>
          have := (h6 (by omega) c2 c3).2.1
          rw [this] at b
          exact (nI_eq (by omega) (by omega)).mp b
  · intro e
    have c1 : ¬ t.length ≤ q := fun z => by rw [bm_b_out z] at e; omega
    have c2 : bm_lt (bm_b t q) = false := decide_eq_false (by rw [e]; omega)
    have c3 : bm_dg (bm_b t q) = false := decide_eq_false (by rw [e]; omega)
    have := h6 (by omega) c2 c3
    exact ⟨this.1, by rw [this.2.1, e]⟩
theorem ys_takesU {Q : Bool → bw_W → Prop} {p : Nat} {μ : Nat ⊕ Nat} (ht : bm_wfT t) (hT : by_T t w) (hok : bu_ok t p μ) (hM : by_M t w μ) (hn : (∀ q, μ = .inr q → bm_b t q ≠ 59) → Q false w) (hy : ∀ q, μ = .inr q → bm_b t q = 59 → ∀ w', by_fr [] by_tf w w' → by_M t w' (.inr (bm_sk t (q + 1))) → Q true w') : bw_rb E (d + 3) mX12_takesSign [.ref 50, .int 59] w Q := by
  have h480 := ht.1
  refine wfX12_takesSign ?_
  cases μ with
  | inl e =>
    have he : e ≤ t.length := hok
    have hM' : gw_i w 50 10 = nI e := hM
    have nc : ¬ (((gw_i w 50 10) = (-1)) ∧ (((gw_i w 50 4) = 3) ∧ ((gw_i w 50 8) = 59))) := fun z => nI_ne_m1 (n := e) (by omega) (by rw [← hM']; exact z.1)
    refine br_nt nc ?_
    rw [decide_eq_false nc]
    exact hn (fun q z => by cases z)
  | inr q =>
    have hs := by_C_sign hM.2 ht (c := 59) (by decide) (by decide)
    by_cases c : bm_b t q = 59
    · have yc : (((gw_i w 50 10) = (-1)) ∧ (((gw_i w 50 4) = 3) ∧ ((gw_i w 50 8) = 59))) := ⟨hM.1, hs.mpr c⟩
      refine br_nf yc ?_
      rw [decide_eq_true yc]
      have c1 : q < t.length := by
        rcases Nat.lt_or_ge q t.length with z | z
        · exact z
        · rw [bm_b_out z] at c; cases c
      have c2 : bm_lt (bm_b t q) = false := by rw [c]; decide
      have c3 : bm_dg (bm_b t q) = false := by rw [c]; decide
      refine ⟨fun w3 => by_fr [] by_tf w w3 ∧ by_C t (bm_sk t (q + 1)) w3, ys_next (d := d) ht hT (hM.2.2.2.2.2.2 c1 c2 c3).2.2 (by omega) (fun w' f g => ⟨f, g⟩), ?_⟩
      rintro w3 ⟨f3, g3⟩
      exact hy q rfl c w3 f3 ⟨by rw [f3.i5 (by decide)]; exact hM.1, g3⟩
    · have nc : ¬ (((gw_i w 50 10) = (-1)) ∧ (((gw_i w 50 4) = 3) ∧ ((gw_i w 50 8) = 59))) := fun z => c (hs.mp z.2)
      refine br_nt nc ?_
      rw [decide_eq_false nc]
      exact hn (fun q' z => by cases z; exact c)
def br_end2 (t : List Nat) : Nat ⊕ Nat → Int32
  | .inl e => nI e
  | .inr q => if t.length ≤ q then -1 else nI q
theorem ys_endsU {Q : Int32 → bw_W → Prop} {p : Nat} {μ : Nat ⊕ Nat} (ht : bm_wfT t) (hok : bu_ok t p μ) (hM : by_M t w μ) (hq : ∀ w', by_fr [] [10] w w' → Q (br_end2 t μ) w') : bw_ri E (d + 2) mX12_ends [.ref 50] w Q := by
  have h480 := ht.1
  cases μ with
  | inl e =>
    have he : e ≤ t.length := hok
    have hM' : gw_i w 50 10 = nI e := hM
    refine ys_ends0 (by rw [hM']; exact nI_ne_m1 (by omega)) ?_
    rw [hM']; exact hq w (by_fr.rf _ _ _)
  | inr q => exact ys_ends hM.2 hM.1 (fun w' f _ => hq w' f)
theorem ys_rScript {Q : Int32 → bw_W → Prop} {n : Nat} (hn : n < 5) (ht : bm_wfT t) (hT : by_T t w) (hq : ∀ w', by_fr [60, 61, 62] by_tw w w' → (∀ j, j ≠ n → gw_i w' 62 j = gw_i w 62 j) → (∀ j, ¬ (48 * n ≤ j ∧ j < 48 * n + 48) → gw_i w' 60 j = gw_i w 60 j) → (∀ j, ¬ (12 * n ≤ j ∧ j < 12 * n + 12) → gw_l w' 61 j = gw_l w 61 j) → by_got n w' (bu_scr t 12 (bm_sk t 0) []) → Q (br_scr (bu_scr t 12 (bm_sk t 0) [])) w') : bw_ri E (d + 6) mX12_readScript [.ref 50, .int (nI n)] w Q := by
  have h480 := ht.1
  generalize hR : bu_scr t 12 (bm_sk t 0) [] = R at hq
  have inn : vp_in (nI n) 5 := bm_in hn (by decide)
  have fin : ∀ (w' : bw_W) (μ : Nat ⊕ Nat) (p : Nat), bu_ok t p μ → by_M t w' μ → by_fr [60, 61, 62] by_tw w w' → (∀ j, j ≠ n → gw_i w' 62 j = gw_i w 62 j) → (∀ j, ¬ (48 * n ≤ j ∧ j < 48 * n + 48) → gw_i w' 60 j = gw_i w 60 j) → (∀ j, ¬ (12 * n ≤ j ∧ j < 12 * n + 12) → gw_l w' 61 j = gw_l w 61 j) → by_got n w' R → br_scr R = br_end2 t μ → bw_G E (d + 6) mX12_readScript 23 [some (.ref 50), some (.int (nI n)), some (.int 0)] [] w' (bw_qi Q) := by
    intro w' μ p hok hM f' k1 k2 k3 hg hr
    refine wfX12_readScript_23 (br_t rfl ⟨Q, ys_endsU (d := d + 3) ht hok hM (fun w'' f'' => ?_), fun _ _ h => h⟩)
    rw [← hr]
    have h62 : ∀ j, gw_i w'' 62 j = gw_i w' 62 j := fun j => f''.i (by decide) (by decide) j
    have h60 : ∀ j, gw_i w'' 60 j = gw_i w' 60 j := fun j => f''.i (by decide) (by decide) j
    have h61 : ∀ j, gw_l w'' 61 j = gw_l w' 61 j := fun j => f''.l (by decide) (by decide) j
    refine hq w'' (f'.tr (f''.up (by decide) (by decide))) (fun j hj => (h62 j).trans (k1 j hj)) (fun j hj => (h60 j).trans (k2 j hj)) (fun j hj => (h61 j).trans (k3 j hj)) ?_
    cases R with
    | inl e => trivial
    | inr L => exact ⟨(h62 n).trans hg.1, fun i hi => (hg.2 i hi).fr f'' (by decide) (by decide)⟩
  have key : ∀ m i q acc (w' : bw_W), i + m = 12 → m ≠ 0 → acc.length = i → gw_i w' 62 n = nI i → by_M t w' (.inr q) → by_fr [60, 61, 62] by_tw w w' → (∀ j, j ≠ n → gw_i w' 62 j = gw_i w 62 j) → (∀ j, ¬ (48 * n ≤ j ∧ j < 48 * n + 48) → gw_i w' 60 j = gw_i w 60 j) → (∀ j, ¬ (12 * n ≤ j ∧ j < 12 * n + 12) → gw_l w' 61 j = gw_l w 61 j) → (∀ j, j < i → by_st (bm_p acc j) (12 * n + j) w') → R = bu_scr t m q acc → bw_G E (d + 6) mX12_readScript 23 [some (.ref 50), some (.int (nI n)), some (.int 1)] [] w' (bw_qi Q) := by
    intro m
    induction m with
    | zero => intro i q acc w' _ h0; exact absurd rfl h0
    | succ m ih =>
      intro i q acc w' hi _ hl h62 hM f' k1 k2 k3 hst hgo
      have hpl : bm_pl t q := hM.2.2.1
      have hT' : by_T t w' := hT.tw f' (by decide)
      refine wfX12_readScript_23 (br_f (by decide) ⟨inn, ?_⟩)
      rw [nI_clamp (by omega), h62, nl_12, pk_mul, nI_add]
      refine ⟨fun w7 => by_fr [60, 61] by_tw w' w7 ∧ (∀ j, j / 4 ≠ 12 * n + i → gw_i w7 60 j = gw_i w' 60 j) ∧ (∀ j, j ≠ 12 * n + i → gw_l w7 61 j = gw_l w' 61 j) ∧ by_M t w7 (bu_step t q).2 ∧ ((bu_step t q).2.isRight = true → by_st (bu_step t q).1 (12 * n + i) w7), ys_readStep (d := d) (by omega) ht hT' hM.1 hM.2 (fun w'' a b c e g => ⟨a, b, c, e, g⟩), ?_⟩
      rintro w7 ⟨f7, a7, b7, m7, s7⟩
      have e62 : gw_i w7 62 n = nI i := by rw [f7.i (by decide) (by decide)]; exact h62
      rw [e62, nI_1]
      refine ⟨inn, inn, inn, ?_⟩
      generalize hw8 : sw_i w7 62 n (nI (i + 1)) = w8
      have f8 : by_fr [62] [] w7 w8 := by rw [← hw8]; exact (by_fr.rf _ _ _).si (by decide) (by decide)
      have f8' : by_fr [60, 61, 62] by_tw w w8 := (f'.tr (f7.up (by decide) (by decide))).tr (f8.up (by decide) (by decide))
      have g62 : ∀ j, j ≠ n → gw_i w8 62 j = gw_i w 62 j := fun j hj => by rw [← hw8, gs_ii, if_neg (fun z => hj z.2), f7.i (by decide) (by decide)]; exact k1 j hj
      have g62n : gw_i w8 62 n = nI (i + 1) := by rw [← hw8, gs_ii, if_pos ⟨rfl, rfl⟩]
      have g60 : ∀ j, ¬ (48 * n ≤ j ∧ j < 48 * n + 48) → gw_i w8 60 j = gw_i w 60 j := fun j hj => by rw [f8.i (by decide) (by decide), a7 j (by omega)]; exact k2 j hj
      have g61 : ∀ j, ¬ (12 * n ≤ j ∧ j < 12 * n + 12) → gw_l w8 61 j = gw_l w 61 j := fun j hj => by rw [f8.l (by decide) (by decide), b7 j (by omega)]; exact k3 j hj
      have m8 : by_M t w8 (bu_step t q).2 := m7.s f8
      have ok := bu_step_ok hpl
      have ll : (acc ++ [(bu_step t q).1]).length = i + 1 := by rw [List.length_append, hl]; rfl
      have st8 : (bu_step t q).2.isRight = true → ∀ j, j < i + 1 → by_st (bm_p (acc ++ [(bu_step t q).1]) j) (12 * n + j) w8 := fun hr j hj => by
        rw [bm_p_app, hl]
        by_cases cj : j < i
        · rw [if_pos cj]
          have o := hst j cj
          refine by_st.fr (S := [62]) (F := []) (w := w7) ?_ f8 (by decide) (by decide)
          unfold by_st at o ⊢
          rw [a7 _ (by omega), a7 _ (by omega), a7 _ (by omega), a7 _ (by omega), b7 _ (by omega)]; exact o
        · have ej : j = i := by omega
          rw [if_neg cj, if_pos ej, ej]
          exact (s7 hr).fr f8 (by decide) (by decide)
      rw [bu_scr] at hgo
      have fin8 := fin w8 (bu_step t q).2 q ok.1 m8 f8' g62 g60 g61
      have tk : ∀ {Qb : Bool → bw_W → Prop}, ((∀ q', (bu_step t q).2 = .inr q' → bm_b t q' ≠ 59) → Qb false w8) → (∀ q', (bu_step t q).2 = .inr q' → bm_b t q' = 59 → ∀ w', by_fr [] by_tf w8 w' → by_M t w' (.inr (bm_sk t (q' + 1))) → Qb true w') → bw_rb E (d + 5) mX12_takesSign [.ref 50, .int 59] w8 Qb := fun h1 h2 => ys_takesU (d := d + 2) ht (hT.tw f8' (by decide)) ok.1 m8 h1 h2
      cases e : (bu_step t q).2 with
      | inl e0 =>
        rw [e] at hgo fin8 tk
        dsimp only at hgo
        have g0 := fin8 (by rw [hgo]; trivial) (by rw [hgo]; rfl)
        refine ⟨fun _ => g0, fun _ => ⟨fun v w13 => v = false ∧ w8 = w13, tk (fun _ => ⟨rfl, rfl⟩) (fun q' z => by cases z), ?_⟩⟩
        rintro _ _ ⟨rfl, rfl⟩
        exact ⟨fun _ => g0, fun z => absurd z br_ft⟩
      | inr q' =>
        rw [e] at hgo fin8 tk st8 ok
        have st9 := st8 rfl
        dsimp only at hgo
        have hb := bm_b_lt q' ht
        have fin9 : (t.length ≤ q' ∨ m = 0 ∨ bm_b t q' ≠ 59) → bw_G E (d + 6) mX12_readScript 23 [some (.ref 50), some (.int (nI n)), some (.int 0)] [] w8 (bw_qi Q) := fun hc => by
          by_cases ce : t.length ≤ q'
          · rw [if_pos ce] at hgo
            refine fin8 ?_ ?_
            · rw [hgo]; exact ⟨by rw [g62n, ll], fun j hj => st9 j (by rw [ll] at hj; exact hj)⟩
            · rw [hgo]; show (-1 : Int32) = if t.length ≤ q' then -1 else nI q'
              rw [if_pos ce]
          · rw [if_neg ce, if_pos (by omega)] at hgo
            refine fin8 (by rw [hgo]; trivial) ?_
            rw [hgo]; show nI q' = if t.length ≤ q' then -1 else nI q'
            rw [if_neg ce]
        refine ⟨fun z => ?_, fun z => ?_⟩
        · have : 12 ≤ i + 1 := (nI_leI (by decide) (by omega)).mp z
          exact fin9 (Or.inr (Or.inl (by omega)))
        · have hz : ¬ 12 ≤ i + 1 := fun y => z (nI_le y (by omega))
          refine ⟨_, tk (Qb := fun v w13 => (v = false → w8 = w13 ∧ bm_b t q' ≠ 59) ∧ (v = true → bm_b t q' = 59 ∧ by_fr [] by_tf w8 w13 ∧ by_M t w13 (.inr (bm_sk t (q' + 1))))) (fun h => ⟨fun _ => ⟨rfl, h q' rfl⟩, fun y => absurd y br_ft⟩) (fun q2 y b w' f g => by cases y; exact ⟨fun y => absurd y br_tf, fun _ => ⟨b, f, g⟩⟩), ?_⟩
          rintro v12 w13 ⟨h1, h2⟩
          refine ⟨fun y => ?_, fun y => ?_⟩
          · obtain ⟨rfl, b⟩ := h1 y
            exact fin9 (Or.inr (Or.inr b))
          · obtain ⟨b, f13, g13⟩ := h2 y
            have ce : ¬ t.length ≤ q' := fun x => by rw [bm_b_out x] at b; cases b
            rw [if_neg ce, if_neg (by omega)] at hgo
            have f13' : by_fr [] by_tw w8 w13 := f13.up (by decide) (by decide)
            refine ih (i + 1) (bm_sk t (q' + 1)) _ w13 (by omega) (by omega) ll (by rw [f13.i (by decide) (by decide)]; exact g62n) g13 (f8'.tr (f13.up (by decide) (by decide))) (fun j hj => by rw [f13.i (by decide) (by decide)]; exact g62 j hj) (fun j hj => by rw [f13.i (by decide) (by decide)]; exact g60 j hj) (fun j hj => by rw [f13.l (by decide) (by decide)]; exact g61 j hj) (fun j hj => (st9 j hj).fr f13 (by decide) (by decide)) hgo
  refine wfX12_readScript ⟨inn, ?_⟩
  rw [nI_clamp (by omega)]
  generalize hwz : sw_i (sw_i (sw_i w 50 3 0) 50 10 (-1)) 62 n 0 = wz
  have fz : by_fr [60, 61, 62] by_tw w wz := by rw [← hwz]; exact (((by_fr.rf _ _ _).s5 (by decide)).s5 (by decide)).si (by decide) (by decide)
  refine ⟨fun w4 => by_fr [] by_tf wz w4 ∧ by_C t (bm_sk t 0) w4, ys_next (d := d + 3) (p := 0) ht (hT.tw fz (by decide)) (by rw [← hwz, gs_ii, if_neg (by omega), gs_ii, if_neg (by omega), gs_ii, if_pos ⟨rfl, rfl⟩]; rfl) (Nat.zero_le _) (fun w' f g => ⟨f, g⟩), ?_⟩
  rintro w4 ⟨f4, g4⟩
  have e10 : gw_i w4 50 10 = -1 := by rw [f4.i5 (by decide), ← hwz, gs_ii, if_neg (by omega), gs_ii, if_pos ⟨rfl, rfl⟩]
  refine key 12 0 (bm_sk t 0) [] w4 rfl (by decide) rfl ?_ ⟨e10, g4⟩ (fz.tr (f4.up (by decide) (by decide))) (fun j hj => ?_) (fun j _ => ?_) (fun j _ => ?_) (fun j hj => absurd hj (Nat.not_lt_zero j)) hR.symm
  · rw [f4.i (by decide) (by decide), ← hwz, gs_ii, if_pos ⟨rfl, rfl⟩]; rfl
  · rw [f4.i (by decide) (by decide), ← hwz, gs_ii, if_neg (fun z => hj z.2), gs_ii, if_neg (by omega), gs_ii, if_neg (by omega)]
  · rw [f4.i (by decide) (by decide), ← hwz, gs_ii, if_neg (by omega), gs_ii, if_neg (by omega), gs_ii, if_neg (by omega)]
  · rw [f4.l (by decide) (by decide), ← hwz]; rfl
end MSCR3
