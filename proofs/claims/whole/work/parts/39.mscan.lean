/-! the reference's parts of a text -/
def by_C (t : List Nat) (q : Nat) (w : bw_W) : Prop := gw_i w 50 5 = nI q ∧ bm_pl t q ∧ (t.length ≤ q → gw_i w 50 4 = 0 ∧ gw_i w 50 3 = nI q) ∧ (bm_lt (bm_b t q) = true → gw_i w 50 4 = 1 ∧ gw_i w 50 9 = nI (bm_e bm_lt t q - q) ∧ gw_i w 50 3 = nI (bm_e bm_lt t q) ∧ (bm_e bm_lt t q ≤ q + 8 → gw_l w 50 11 = by_w (bm_ls t q (bm_e bm_lt t q - q)))) ∧ (bm_dg (bm_b t q) = true → gw_i w 50 4 = 2 ∧ gw_i w 50 7 = nI (bm_e bm_dg t q - q) ∧ gw_i w 50 3 = nI (bm_e bm_dg t q) ∧ (bm_e bm_dg t q ≤ q + 2 → gw_i w 50 6 = nI (bm_dv t q (bm_e bm_dg t q - q)))) ∧ (q < t.length → bm_lt (bm_b t q) = false → bm_dg (bm_b t q) = false → gw_i w 50 4 = 3 ∧ gw_i w 50 8 = nI (bm_b t q) ∧ gw_i w 50 3 = nI (q + 1))
theorem by_T.fr {t : List Nat} {w w' : bw_W} {S F : List Nat} (h : by_T t w) (hf : by_fr S F w w') (h1 : 51 ∉ S) (h2 : 2 ∉ F) : by_T t w' := ⟨by rw [hf.i5 h2]; exact h.1, fun i hi => by rw [hf.i h1 (by decide)]; exact h.2 i hi⟩
/-- where what follows a part begins -/
def bp_nx (t : List Nat) (q : Nat) : Nat := if t.length ≤ q then q else if bm_lt (bm_b t q) then bm_e bm_lt t q else if bm_dg (bm_b t q) then bm_e bm_dg t q else q + 1
abbrev by_tf : List Nat := [3, 4, 5, 6, 7, 8, 9, 11]
section MSCAN
variable {E : bw_E} {d : Nat} {w : bw_W} {t : List Nat}
theorem by_T_b (hT : by_T t w) {i : Nat} (h : i < t.length) : gw_i w 51 i = nI (bm_b t i) := hT.2 i h
theorem yv_here {p : Nat} (ht : bm_wfT t) (hT : by_T t w) (hp : gw_i w 50 3 = nI p) (hl : p ≤ t.length) : vX12_here w = if p < t.length then nI (bm_b t p) else -1 := by
  have := ht.1
  unfold vX12_here
  rw [hT.1, hp]
  by_cases c : p < t.length
  · simp only [if_neg (nI_ge c (by omega : t.length < 2 ^ 31)), if_pos c, nI_clamp (show p < 2 ^ 31 by omega)]
    exact by_T_b hT c
  · simp only [if_pos (nI_le (show t.length ≤ p by omega) (by omega)), if_neg c]
theorem yv_hin {p : Nat} (ht : bm_wfT t) (hT : by_T t w) (hp : gw_i w 50 3 = nI p) (hl : p ≤ t.length) : (¬ ((gw_i w 50 2) ≤ (gw_i w 50 3))) → (vp_in (gw_i w 50 3) 480) := by
  have := ht.1
  rw [hT.1, hp, nI_leI (by omega) (by omega)]
  intro z
  exact bm_in (by omega) (by decide)
theorem yv_lt {p : Nat} (ht : bm_wfT t) (hT : by_T t w) (hp : gw_i w 50 3 = nI p) (hl : p ≤ t.length) : ((¬ ((vX12_here w) < 97)) ∧ (¬ (122 < (vX12_here w)))) ↔ bm_lt (bm_b t p) = true := by
  rw [yv_here ht hT hp hl]
  unfold bm_lt
  by_cases c : p < t.length
  · have := bm_b_in ht c
    rw [if_pos c, show (97 : Int32) = nI 97 from rfl, show (122 : Int32) = nI 122 from rfl, nI_ltI (by omega) (by decide), nI_ltI (by decide) (by omega), decide_eq_true_iff]
    omega
  · rw [if_neg c, bm_b_out (by omega)]
    decide
theorem yv_dg {p : Nat} (ht : bm_wfT t) (hT : by_T t w) (hp : gw_i w 50 3 = nI p) (hl : p ≤ t.length) : ((¬ ((vX12_here w) < 48)) ∧ (¬ (57 < (vX12_here w)))) ↔ bm_dg (bm_b t p) = true := by
  rw [yv_here ht hT hp hl]
  unfold bm_dg
  by_cases c : p < t.length
  · have := bm_b_in ht c
    rw [if_pos c, nl_48, show (57 : Int32) = nI 57 from rfl, nI_ltI (by omega) (by decide), nI_ltI (by decide) (by omega), decide_eq_true_iff]
    omega
  · rw [if_neg c, bm_b_out (by omega)]
    decide
theorem ys_rword {Q : bw_W → Prop} {q : Nat} (ht : bm_wfT t) (hT : by_T t w) (hp : gw_i w 50 3 = nI q) (hl : q ≤ t.length) (hq : ∀ w', by_fr [] by_tf w w' → gw_i w' 50 5 = gw_i w 50 5 → gw_i w' 50 4 = 1 → gw_i w' 50 9 = nI (bm_e bm_lt t q - q) → gw_i w' 50 3 = nI (bm_e bm_lt t q) → (bm_e bm_lt t q ≤ q + 8 → gw_l w' 50 11 = by_w (bm_ls t q (bm_e bm_lt t q - q))) → Q w') : bw_rv E (d + 1) mX12_readWord [.ref 50] w Q := by
  have h480 := ht.1
  have key : ∀ n k (w' : bw_W), q + k + n = t.length → bm_e bm_lt t (q + k) = bm_e bm_lt t q → by_fr [] by_tf w w' → gw_i w' 50 5 = gw_i w 50 5 → gw_i w' 50 9 = nI k → gw_i w' 50 3 = nI (q + k) → (k ≤ 8 → gw_l w' 50 11 = by_w (bm_ls t q k)) → bw_G E (d + 1) mX12_readWord 10 [some (.ref 50)] [] w' (bw_qv Q) := by
    have fin : ∀ k (w' : bw_W), bm_e bm_lt t q = q + k → by_fr [] by_tf w w' → gw_i w' 50 5 = gw_i w 50 5 → gw_i w' 50 9 = nI k → gw_i w' 50 3 = nI (q + k) → (k ≤ 8 → gw_l w' 50 11 = by_w (bm_ls t q k)) → Q (sw_i w' 50 4 1) := by
      intro k w' he hf g5 g9 g3 g11
      have e : bm_e bm_lt t q - q = k := by omega
      rw [e, he] at hq
      refine hq _ (hf.s5 (by decide)) (by rw [gs_ii, if_neg (by decide)]; exact g5) (by rw [gs_ii, if_pos ⟨rfl, rfl⟩]) (by rw [gs_ii, if_neg (by decide)]; exact g9) (by rw [gs_ii, if_neg (by decide)]; exact g3) (fun h8 => by rw [gs_li]; exact g11 (by omega))
    intro n
    induction n with
    | zero =>
      intro k w' hn he hf g5 g9 g3 g11
      have hT' := hT.fr hf (by decide) (by decide)
      have e2 : bm_lt (bm_b t (q + k)) = false := by rw [bm_b_out (by omega)]; rfl
      refine wfX12_readWord_10 ⟨yv_hin ht hT' g3 (by omega), ?_⟩
      rw [yv_lt ht hT' g3 (by omega), e2]
      exact ⟨fun _ => fin k w' (by rw [← he]; exact bm_e_f e2) hf g5 g9 g3 g11, fun z => by cases z⟩
    | succ n ih =>
      intro k w' hn he hf g5 g9 g3 g11
      have hT' := hT.fr hf (by decide) (by decide)
      have hb := bm_b_in ht (show q + k < t.length by omega)
      refine wfX12_readWord_10 ⟨yv_hin ht hT' g3 (by omega), ?_⟩
      rw [yv_lt ht hT' g3 (by omega), yv_here ht hT' g3 (by omega), if_pos (by omega)]
      refine ⟨fun z => fin k w' (by rw [← he]; exact bm_e_f (by simpa using z)) hf g5 g9 g3 g11, fun z => ?_⟩
      have hlt := of_decide_eq_true z
      have he' : bm_e bm_lt t (q + (k + 1)) = bm_e bm_lt t q := by rw [← he, bm_e_t rfl z]; rfl
      rw [g9, g3, nI_1, nI_1, nl_8, nI_leI (by decide) (by omega)]
      refine ⟨fun y => ?_, fun y => ⟨fun _ => bm_in (by omega) (by decide), ?_⟩⟩
      · exact ih (k + 1) _ (by omega) he' (((hf.s5l (by decide)).s5 (by decide)).s5 (by decide)) (by rw [gs_ii, if_neg (by decide), gs_ii, if_neg (by decide), gs_il]; exact g5) (by rw [gs_ii, if_neg (by decide), gs_ii, if_pos ⟨rfl, rfl⟩]) (by rw [gs_ii, if_pos ⟨rfl, rfl⟩]; rfl) (fun h => by omega)
      · refine ih (k + 1) _ (by omega) he' (((hf.s5l (by decide)).s5 (by decide)).s5 (by decide)) (by rw [gs_ii, if_neg (by decide), gs_ii, if_neg (by decide), gs_il]; exact g5) (by rw [gs_ii, if_neg (by decide), gs_ii, if_pos ⟨rfl, rfl⟩]) (by rw [gs_ii, if_pos ⟨rfl, rfl⟩]; rfl) (fun h => ?_)
        rw [gs_li, gs_li, gs_ll, if_pos ⟨rfl, rfl⟩, g11 (by omega), bm_ls, by_w_add, nI_l (by omega)]
        unfold by_w
        rw [show (27 : Int64) = lN 27 from rfl, lN_mul, lN_add, show (97 : Int64) = lN 97 from rfl, lN_sub (by omega), lN_1]
        congr 1; omega
  exact wfX12_readWord (key (t.length - q) 0 _ (by omega) rfl (((by_fr.rf _ _ _).s5l (by decide)).s5 (by decide)) (by rw [gs_ii, if_neg (by decide), gs_il]) (by rw [gs_ii, if_pos ⟨rfl, rfl⟩]; rfl) (by rw [gs_ii, if_neg (by decide), gs_il]; exact hp) (fun _ => by rw [gs_li, gs_ll, if_pos ⟨rfl, rfl⟩]; rfl))
theorem ys_rnum {Q : bw_W → Prop} {q : Nat} (ht : bm_wfT t) (hT : by_T t w) (hp : gw_i w 50 3 = nI q) (hl : q ≤ t.length) (hq : ∀ w', by_fr [] by_tf w w' → gw_i w' 50 5 = gw_i w 50 5 → gw_i w' 50 4 = 2 → gw_i w' 50 7 = nI (bm_e bm_dg t q - q) → gw_i w' 50 3 = nI (bm_e bm_dg t q) → (bm_e bm_dg t q ≤ q + 2 → gw_i w' 50 6 = nI (bm_dv t q (bm_e bm_dg t q - q))) → Q w') : bw_rv E (d + 1) mX12_readNumber [.ref 50] w Q := by
  have h480 := ht.1
  have key : ∀ n k (w' : bw_W), q + k + n = t.length → bm_e bm_dg t (q + k) = bm_e bm_dg t q → by_fr [] by_tf w w' → gw_i w' 50 5 = gw_i w 50 5 → gw_i w' 50 7 = nI k → gw_i w' 50 3 = nI (q + k) → (k ≤ 2 → gw_i w' 50 6 = nI (bm_dv t q k)) → bw_G E (d + 1) mX12_readNumber 10 [some (.ref 50)] [] w' (bw_qv Q) := by
    have fin : ∀ k (w' : bw_W), bm_e bm_dg t q = q + k → by_fr [] by_tf w w' → gw_i w' 50 5 = gw_i w 50 5 → gw_i w' 50 7 = nI k → gw_i w' 50 3 = nI (q + k) → (k ≤ 2 → gw_i w' 50 6 = nI (bm_dv t q k)) → Q (sw_i w' 50 4 2) := by
      intro k w' he hf g5 g9 g3 g11
      have e : bm_e bm_dg t q - q = k := by omega
      rw [e, he] at hq
      refine hq _ (hf.s5 (by decide)) (by rw [gs_ii, if_neg (by decide)]; exact g5) (by rw [gs_ii, if_pos ⟨rfl, rfl⟩]) (by rw [gs_ii, if_neg (by decide)]; exact g9) (by rw [gs_ii, if_neg (by decide)]; exact g3) (fun h8 => by rw [gs_ii, if_neg (by decide)]; exact g11 (by omega))
    intro n
    induction n with
    | zero =>
      intro k w' hn he hf g5 g9 g3 g11
      have hT' := hT.fr hf (by decide) (by decide)
      have e2 : bm_dg (bm_b t (q + k)) = false := by rw [bm_b_out (by omega)]; rfl
      refine wfX12_readNumber_10 ⟨yv_hin ht hT' g3 (by omega), ?_⟩
      rw [yv_dg ht hT' g3 (by omega), e2]
      exact ⟨fun _ => fin k w' (by rw [← he]; exact bm_e_f e2) hf g5 g9 g3 g11, fun z => by cases z⟩
    | succ n ih =>
      intro k w' hn he hf g5 g9 g3 g11
      have hT' := hT.fr hf (by decide) (by decide)
      have hb := bm_b_in ht (show q + k < t.length by omega)
      refine wfX12_readNumber_10 ⟨yv_hin ht hT' g3 (by omega), ?_⟩
      rw [yv_dg ht hT' g3 (by omega), yv_here ht hT' g3 (by omega), if_pos (by omega)]
      refine ⟨fun z => fin k w' (by rw [← he]; exact bm_e_f (by simpa using z)) hf g5 g9 g3 g11, fun z => ?_⟩
      have hlt := of_decide_eq_true z
      have he' : bm_e bm_dg t (q + (k + 1)) = bm_e bm_dg t q := by rw [← he, bm_e_t rfl z]; rfl
      rw [g9, g3, nI_1, nI_1, nl_2, nI_leI (by decide) (by omega)]
      refine ⟨fun y => ?_, fun y => ⟨fun _ => bm_in (by omega) (by decide), ?_⟩⟩
      · exact ih (k + 1) _ (by omega) he' (((hf.s5 (by decide)).s5 (by decide)).s5 (by decide)) (by rw [gs_ii, if_neg (by decide), gs_ii, if_neg (by decide), gs_ii, if_neg (by decide)]; exact g5) (by rw [gs_ii, if_neg (by decide), gs_ii, if_pos ⟨rfl, rfl⟩]) (by rw [gs_ii, if_pos ⟨rfl, rfl⟩]; rfl) (fun h => by omega)
      · refine ih (k + 1) _ (by omega) he' (((hf.s5 (by decide)).s5 (by decide)).s5 (by decide)) (by rw [gs_ii, if_neg (by decide), gs_ii, if_neg (by decide), gs_ii, if_neg (by decide)]; exact g5) (by rw [gs_ii, if_neg (by decide), gs_ii, if_pos ⟨rfl, rfl⟩]) (by rw [gs_ii, if_pos ⟨rfl, rfl⟩]; rfl) (fun h => ?_)
        rw [gs_ii, if_neg (by decide), gs_ii, if_neg (by decide), gs_ii, if_pos ⟨rfl, rfl⟩, g11 (by omega), bm_dv, show (10 : Int32) = nI 10 from rfl, pk_mul, nI_add, nl_48, pk_sub (by omega)]
        congr 1; omega
  exact wfX12_readNumber (key (t.length - q) 0 _ (by omega) rfl (((by_fr.rf _ _ _).s5 (by decide)).s5 (by decide)) (by rw [gs_ii, if_neg (by decide), gs_ii, if_neg (by decide)]) (by rw [gs_ii, if_pos ⟨rfl, rfl⟩]; rfl) (by rw [gs_ii, if_neg (by decide), gs_ii, if_neg (by decide)]; exact hp) (fun _ => by rw [gs_ii, if_neg (by decide), gs_ii, if_pos ⟨rfl, rfl⟩]; rfl))
theorem bm_ltdg {x : Nat} (h : bm_lt x = true) : bm_dg x = false := by
  have := of_decide_eq_true h
  exact decide_eq_false (by omega)
theorem ys_next {Q : bw_W → Prop} {p : Nat} (ht : bm_wfT t) (hT : by_T t w) (hp : gw_i w 50 3 = nI p) (hl : p ≤ t.length) (hq : ∀ w', by_fr [] by_tf w w' → by_C t (bm_sk t p) w' → Q w') : bw_rv E (d + 2) mX12_next [.ref 50] w Q := by
  have h480 := ht.1
  have key : ∀ n p (w' : bw_W), p + n = t.length → by_fr [] by_tf w w' → gw_i w' 50 3 = nI p → (∀ w2, by_fr [] by_tf w w2 → by_C t (bm_sk t p) w2 → Q w2) → bw_G E (d + 2) mX12_next 0 [some (.ref 50), none] [] w' (bw_qv Q) := by
    have fin : ∀ q (w' : bw_W), q ≤ t.length → bm_bl (bm_b t q) = false → by_fr [] by_tf w w' → gw_i w' 50 3 = nI q → (∀ w2, by_fr [] by_tf w w2 → by_C t q w2 → Q w2) → bw_G E (d + 2) mX12_next 0 [some (.ref 50), none] [] w' (bw_qv Q) := by
      intro q w' hq0 hb hf g3 hq
      have hT' := hT.fr hf (by decide) (by decide)
      have hpl : bm_pl t q := ⟨hq0, bm_e_f hb⟩
      have f5 : by_fr [] by_tf w (sw_i w' 50 5 (gw_i w' 50 3)) := hf.s5 (by decide)
      have hT5 := hT.fr f5 (by decide) (by decide)
      have g53 : gw_i (sw_i w' 50 5 (gw_i w' 50 3)) 50 3 = nI q := by rw [gs_ii, if_neg (by decide)]; exact g3
      have g55 : gw_i (sw_i w' 50 5 (gw_i w' 50 3)) 50 5 = nI q := by rw [gs_ii, if_pos ⟨rfl, rfl⟩]; exact g3
      refine wfX12_next_0 ⟨yv_hin ht hT' g3 hq0, ?_, ?_⟩
      · intro _
        refine ⟨yv_hin ht hT5 g53 hq0, ?_⟩
        rw [yv_lt ht hT5 g53 hq0, yv_dg ht hT5 g53 hq0, yv_here ht hT5 g53 hq0]
        refine ⟨fun z => ?_, fun z => ?_⟩
        · have hlen : q < t.length := by
            by_cases c : q < t.length
            · exact c
            · rw [if_neg c] at z; exact absurd rfl z
          rw [if_pos hlen]
          refine ⟨fun y => ⟨fun x => ?_, fun x => ?_⟩, fun y => ?_⟩
          · have y' : bm_lt (bm_b t q) = false := by simpa using y
            have x' : bm_dg (bm_b t q) = false := by simpa using x
            rw [g3] at f5 g55 ⊢
            refine hq _ (((f5.s5 (by decide)).s5 (by decide)).s5 (by decide)) ⟨?_, hpl, fun h => by omega, fun h => (by rw [y'] at h; cases h), fun h => (by rw [x'] at h; cases h), fun _ _ _ => ⟨?_, ?_, ?_⟩⟩
            · rw [gs_ii, if_neg (by decide), gs_ii, if_neg (by decide), gs_ii, if_neg (by decide)]; exact g55
            · rw [gs_ii, if_neg (by decide), gs_ii, if_pos ⟨rfl, rfl⟩]
            · rw [gs_ii, if_pos ⟨rfl, rfl⟩]
            · rw [gs_ii, if_neg (by decide), gs_ii, if_neg (by decide), gs_ii, if_pos ⟨rfl, rfl⟩, nI_1]
          · refine ⟨Q, ys_rnum (d := d) ht hT5 g53 hq0 (fun w2 f2 h5 h4 h7 h3 h6 => hq w2 (f5.tr f2) ⟨by rw [h5]; exact g55, hpl, fun h => by omega, fun h => absurd h y, fun _ => ⟨h4, h7, h3, h6⟩, fun _ _ h => (by rw [x] at h; cases h)⟩), fun _ h => h⟩
          · refine ⟨Q, ys_rword (d := d) ht hT5 g53 hq0 (fun w2 f2 h5 h4 h9 h3 h11 => hq w2 (f5.tr f2) ⟨by rw [h5]; exact g55, hpl, fun h => by omega, fun _ => ⟨h4, h9, h3, h11⟩, fun h => (by rw [bm_ltdg y] at h; cases h), fun _ h => (by rw [y] at h; cases h)⟩), fun _ h => h⟩
        · have hlen : t.length ≤ q := by
            by_cases c : q < t.length
            · have hb := bm_b_in ht c
              rw [if_pos c] at z; exact absurd z (nI_ne_m1 (by omega))
            · omega
          have b0 := bm_b_out hlen
          refine hq _ (f5.s5 (by decide)) ⟨by rw [gs_ii, if_neg (by decide)]; exact g55, hpl, fun _ => ⟨by rw [gs_ii, if_pos ⟨rfl, rfl⟩], by rw [gs_ii, if_neg (by decide)]; exact g53⟩, fun h => (by rw [b0] at h; cases h), fun h => (by rw [b0] at h; cases h), fun h => by omega⟩
      · intro z
        rw [yv_here ht hT' g3 hq0] at z
        by_cases c : q < t.length
        · have hb2 := bm_b_in ht c
          rw [if_pos c, show (32 : Int32) = nI 32 from rfl, nI_eq (by omega) (by decide)] at z
          rw [z] at hb; cases hb
        · rw [if_neg c] at z; exact absurd z (by decide)
    intro n
    induction n with
    | zero =>
      intro p w' hn hf g3 hq
      have e2 : bm_bl (bm_b t p) = false := by rw [bm_b_out (by omega)]; rfl
      rw [bm_sk, bm_e_f e2] at hq
      exact fin p w' (by omega) e2 hf g3 hq
    | succ n ih =>
      intro p w' hn hf g3 hq
      cases e2 : bm_bl (bm_b t p) with
      | false =>
        rw [bm_sk, bm_e_f e2] at hq
        exact fin p w' (by omega) e2 hf g3 hq
      | true =>
        have hT' := hT.fr hf (by decide) (by decide)
        have e3 : bm_b t p = 32 := of_decide_eq_true e2
        rw [bm_sk, bm_e_t rfl e2] at hq
        refine wfX12_next_0 ⟨yv_hin ht hT' g3 (by omega), br_nf ?_ ?_⟩
        · rw [yv_here ht hT' g3 (by omega), if_pos (by omega), e3]; rfl
        · rw [g3, nI_1]
          exact ih (p + 1) _ (by omega) (hf.s5 (by decide)) (by rw [gs_ii, if_pos ⟨rfl, rfl⟩]) hq
  exact wfX12_next (key (t.length - p) p w (by omega) (by_fr.rf _ _ _) hp hq)
end MSCAN
