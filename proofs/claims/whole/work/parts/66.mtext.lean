/-! text, fault: the reference -/
section MTEXT
variable {E : bw_E} {d : Nat} {w : bw_W} {S : bm_S} {K : Nat} {Q : Int32 → bw_W → Prop}
def by_zz (D : bd_D) (m j : Nat) : Int64 := if j < 7 then (if j % 2 = 1 then -1 else 0) else if j < 7 + m then by_w (dd_f D (j - 7)) else 0
abbrev by_xl : List Nat := [63, 65, 66, 67, 68, 69, 70]
abbrev by_xf : List Nat := [34, 35, 42, 51]
theorem ys_take {D : bd_D} (hd : bd_wf D) (hD : by_D D w) (hq : ∀ w', by_fr by_xl by_xf w w' → by_X (dd_X D) w' → by_Sf (dd_f D, fun _ => none, false) [] (gw_l w' 63) → gw_i w' 50 42 = 0 → gw_i w' 50 51 = 0 → Q (nI (bm_nn (dd_X D))) w') : bw_ri E (d + 0) mX12_takeLexicon [.ref 50] w Q := by
  have h6 := hd.1
  have h4 := hd.2.1
  have hxx := hd.2.2.2.2.1
  refine wfX12_takeLexicon ?_
  rw [hD.1, hD.2.1]
  generalize hw1 : sw_i (sw_i w 50 34 (nI (bm_nn (dd_X D)))) 50 35 (nI (bm_nm (dd_X D))) = w1
  have f1 : by_fr [] [34, 35] w w1 := by rw [← hw1]; exact ((by_fr.rf _ _ _).s5 (by decide)).s5 (by decide)
  have e34 : gw_i w1 50 34 = nI (bm_nn (dd_X D)) := by rw [← hw1, gs_ii, if_neg (by omega), gs_ii, if_pos ⟨rfl, rfl⟩]
  have e35 : gw_i w1 50 35 = nI (bm_nm (dd_X D)) := by rw [← hw1, gs_ii, if_pos ⟨rfl, rfl⟩]
  have hD1 : by_D D w1 := hD.fr f1 (fun c q => by cases q) (by decide) (by decide)
  -- messages
  have l171 : ∀ n m (w' : bw_W), m + n = bm_nm (dd_X D) → by_fr [63, 65, 66, 67, 68, 69, 70] [] w1 w' → (∀ j, j < 236 → gw_l w' 63 j = by_zz D (8 * bm_nn (dd_X D)) j) → (∀ j, j < bm_nn (dd_X D) → gw_l w' 65 j = by_w (bm_nam (dd_X D) j) ∧ gw_i w' 66 j = nI (bm_knd (dd_X D) j)) → (∀ j, j < 48 → gw_l w' 67 j = by_w (bm_wds (dd_X D) j)) → (∀ k, k < m → gw_i w' 68 k = nI (bm_cnt (dd_X D) k) ∧ ∀ i, i < bm_cnt (dd_X D) k → by_it (bm_it (dd_X D) (8 * k + i)) (8 * k + i) w') → bw_G E (d + 0) mX12_takeLexicon 171 [some (.ref 50), some (.int (nI m)), none, none] [] w' (bw_qi Q) := by
    intro n
    induction n with
    | zero =>
      intro m w' hm f' z a b c
      refine wfX12_takeLexicon_171 ?_
      rw [f'.i5 (by decide), e35, f'.i5 (by decide), e34]
      refine br_t (nI_le (by omega) (by omega)) ?_
      generalize hw2 : sw_i (sw_i w' 50 42 0) 50 51 0 = w2
      have f2 : by_fr [] [42, 51] w' w2 := by rw [← hw2]; exact ((by_fr.rf _ _ _).s5 (by decide)).s5 (by decide)
      refine hq w2 (((f1.up (by decide) (by decide)).tr (f'.up (by decide) (by decide))).tr (f2.up (by decide) (by decide))) ?_ ⟨fun i hi => ?_, ?_, fun i hi => absurd hi (Nat.not_lt_zero i)⟩ ?_ ?_
      · refine by_X.fr (S := []) (F := [42, 51]) (w := w') ⟨?_, ?_, a, b, fun m hm => c m (by omega)⟩ f2 (fun c q => by cases q) (by decide) (by decide)
        · rw [f'.i5 (by decide)]; exact e34
        · rw [f'.i5 (by decide)]; exact e35
      · rw [f2.l (by decide) (by decide), z i (by omega)]
        unfold by_zz cy_N
        by_cases c0 : i = 0
        · rw [if_pos c0, if_pos (by omega), if_neg (by omega)]; rfl
        rw [if_neg c0]
        by_cases c7 : i < 7
        · rw [if_pos c7, if_pos c7]; rfl
        · rw [if_neg c7, if_neg c7]
          by_cases c8 : i < 7 + 8 * bm_nn (dd_X D)
          · rw [if_pos c8]; rfl
          · rw [if_neg c8]
            show (0 : Int64) = by_w (dd_f D (i - 7))
            rw [hd.2.2.2.2.2.2.1 (i - 7) (by omega)]; rfl
      · rw [f2.l (by decide) (by decide), z 55 (by omega)]
        unfold by_zz
        rw [if_neg (by omega), if_neg (by omega)]; rfl
      · rw [← hw2, gs_ii, if_neg (by omega), gs_ii, if_pos ⟨rfl, rfl⟩]
      · rw [← hw2, gs_ii, if_pos ⟨rfl, rfl⟩]
    | succ n ih =>
      intro m w' hm f' z a b c
      refine wfX12_takeLexicon_171 ?_
      have im : vp_in (nI m) 4 := bm_in (by omega) (by decide)
      have ht := hD1.2.2.2.2.2 m (by omega)
      have h8 := (hxx m (by omega)).2.1
      have e57 : gw_i w' 57 m = nI (bm_cnt (dd_X D) m) := by rw [f'.i (by decide) (by decide)]; exact ht.2.1
      rw [f'.i5 (by decide), e35, nI_clamp (by omega), e57]
      refine br_f (nI_ge (by omega) (by omega)) ⟨im, im, ?_⟩
      have inner : ∀ p i (w2 : bw_W), i + p = bm_cnt (dd_X D) m → by_fr [68, 69, 70] [] w' w2 → (∀ k, gw_i w2 68 k = if k = m then nI (bm_cnt (dd_X D) m) else gw_i w' 68 k) → (∀ k, k < 24 * m → gw_i w2 69 k = gw_i w' 69 k) → (∀ k, k < 8 * m → gw_l w2 70 k = gw_l w' 70 k) → (∀ j, j < i → by_it (bm_it (dd_X D) (8 * m + j)) (8 * m + j) w2) → bw_G E (d + 0) mX12_takeLexicon 193 [some (.ref 50), some (.int (nI m)), some (.int (nI i)), none] [] w2 (bw_qi Q) := by
        intro p
        induction p with
        | zero =>
          intro i w2 hi f2 k1 k2 k3 k4
          refine wfX12_takeLexicon_193 ⟨im, ?_⟩
          rw [nI_clamp (by omega), k1, if_pos rfl, nI_1 m]
          refine br_t (nI_le (by omega) (by omega)) (ih (m + 1) w2 (by omega) (f'.tr (f2.up (by decide) (by decide))) (fun j hj => ?_) (fun j hj => ?_) (fun j hj => ?_) (fun k hk => ?_))
          · rw [f2.l (by decide) (by decide)]; exact z j hj
          · rw [f2.l (by decide) (by decide), f2.i (by decide) (by decide)]; exact a j hj
          · rw [f2.l (by decide) (by decide)]; exact b j hj
          · rw [k1]
            by_cases x : k = m
            · rw [if_pos x, x]; exact ⟨rfl, fun j hj => k4 j (by omega)⟩
            · rw [if_neg x]
              have := (hxx k (by omega)).2.1
              refine ⟨(c k (by omega)).1, fun j hj => ?_⟩
              have o := (c k (by omega)).2 j hj
              unfold by_it at o ⊢
              rw [k2 _ (by omega), k2 _ (by omega), k2 _ (by omega), k3 _ (by omega)]; exact o
        | succ p ihp =>
          intro i w2 hi f2 k1 k2 k3 k4
          refine wfX12_takeLexicon_193 ⟨im, ?_⟩
          rw [nI_clamp (n := m) (by omega), k1, if_pos rfl]
          refine br_f (nI_ge (by omega) (by omega)) ?_
          have ee : (8 : Int32) * nI m + nI i = nI (8 * m + i) := by rw [nl_8, pk_mul, nI_add]
          have e3 : (3 : Int32) * nI (8 * m + i) = nI (3 * (8 * m + i)) := by rw [nl_3, pk_mul]
          rw [ee, e3, nI_1 (3 * (8 * m + i)), nl_2, nI_add, nI_1 i, nI_clamp (by omega), nI_clamp (by omega), nI_clamp (by omega), nI_clamp (by omega)]
          refine ⟨bm_in (by omega) (by decide), bm_in (by omega) (by decide), bm_in (by omega) (by decide), bm_in (by omega) (by decide), bm_in (by omega) (by decide), bm_in (by omega) (by decide), bm_in (by omega) (by decide), bm_in (by omega) (by decide), ?_⟩
          generalize hk : 8 * m + i = kk
          have o := ht.2.2 i (by omega)
          rw [hk] at o
          generalize hw3 : sw_i (sw_i (sw_i (sw_l w2 70 kk (gw_l w2 59 kk)) 69 (3 * kk) (gw_i w2 58 (3 * kk))) 69 (3 * kk + 1) (gw_i w2 58 (3 * kk + 1))) 69 (3 * kk + 2) (gw_i w2 58 (3 * kk + 2)) = w3
          have f3 : by_fr [69, 70] [] w2 w3 := by rw [← hw3]; exact ((((by_fr.rf _ _ _).sl (by decide) (by decide)).si (by decide) (by decide)).si (by decide) (by decide)).si (by decide) (by decide)
          have g69 : ∀ k, k / 3 ≠ kk → gw_i w3 69 k = gw_i w2 69 k := fun k hk => by rw [← hw3, gs_ii, if_neg (by omega), gs_ii, if_neg (by omega), gs_ii, if_neg (by omega), gs_il]
          have g70 : ∀ k, k ≠ kk → gw_l w3 70 k = gw_l w2 70 k := fun k hk => by rw [← hw3, gs_li, gs_li, gs_li, gs_ll, if_neg (by omega)]
          have i58 : ∀ k, gw_i w2 58 k = gw_i w1 58 k := fun k => by rw [f2.i (by decide) (by decide), f'.i (by decide) (by decide)]
          have l59 : ∀ k, gw_l w2 59 k = gw_l w1 59 k := fun k => by rw [f2.l (by decide) (by decide), f'.l (by decide) (by decide)]
          refine ihp (i + 1) w3 (by omega) (f2.tr (f3.up (by decide) (by decide))) (fun k => by rw [f3.i (by decide) (by decide)]; exact k1 k) (fun k hk2 => by rw [g69 k (by omega)]; exact k2 k hk2) (fun k hk2 => by rw [g70 k (by omega)]; exact k3 k hk2) (fun j hj => ?_)
          by_cases x : j = i
          · rw [x, hk]
            unfold by_it
            unfold by_itd at o
            have q1 : gw_i w3 69 (3 * kk) = gw_i w1 58 (3 * kk) := by rw [← hw3, gs_ii, if_neg (by omega), gs_ii, if_neg (by omega), gs_ii, if_pos ⟨rfl, rfl⟩]; exact i58 _
            have q2 : gw_i w3 69 (3 * kk + 1) = gw_i w1 58 (3 * kk + 1) := by rw [← hw3, gs_ii, if_neg (by omega), gs_ii, if_pos ⟨rfl, rfl⟩]; exact i58 _
            have q3 : gw_i w3 69 (3 * kk + 2) = gw_i w1 58 (3 * kk + 2) := by rw [← hw3, gs_ii, if_pos ⟨rfl, rfl⟩]; exact i58 _
            have q4 : gw_l w3 70 kk = gw_l w1 59 kk := by rw [← hw3, gs_li, gs_li, gs_li, gs_ll, if_pos ⟨rfl, rfl⟩]; exact l59 _
            rw [q1, q2, q3, q4]; exact o
          · have o2 := k4 j (by omega)
            unfold by_it at o2 ⊢
            rw [g69 _ (by omega), g69 _ (by omega), g69 _ (by omega), g70 _ (by omega)]; exact o2
      refine inner (bm_cnt (dd_X D) m) 0 _ (by omega) ((by_fr.rf _ _ _).si (by decide) (by decide)) (fun k => ?_) (fun k _ => by rw [gs_ii, if_neg (by omega)]) (fun k _ => gs_li) (fun j hj => absurd hj (Nat.not_lt_zero j))
      rw [gs_ii]
      by_cases x : k = m
      · rw [if_pos ⟨rfl, x⟩, if_pos x]
      · rw [if_neg (fun y => x y.2), if_neg x]
  -- bound words
  have l145 : ∀ n i (w' : bw_W), i + n = 48 → by_fr [63, 65, 66, 67] [] w1 w' → (∀ j, j < 236 → gw_l w' 63 j = by_zz D (8 * bm_nn (dd_X D)) j) → (∀ j, j < bm_nn (dd_X D) → gw_l w' 65 j = by_w (bm_nam (dd_X D) j) ∧ gw_i w' 66 j = nI (bm_knd (dd_X D) j)) → (∀ j, j < i → gw_l w' 67 j = by_w (bm_wds (dd_X D) j)) → bw_G E (d + 0) mX12_takeLexicon 145 [some (.ref 50), some (.int (nI i)), none, none] [] w' (bw_qi Q) := by
    intro n
    induction n with
    | zero =>
      intro i w' hi f' z a b
      exact wfX12_takeLexicon_145 (br_t (nI_le (a := 48) (by omega) (by omega)) (l171 (bm_nm (dd_X D)) 0 w' (by omega) (f'.up (by decide) (by decide)) z a (fun j hj => b j (by omega)) (fun k hk => absurd hk (Nat.not_lt_zero k))))
    | succ n ih =>
      intro i w' hi f' z a b
      refine wfX12_takeLexicon_145 (br_f (nI_ge (a := i) (b := 48) (by omega) (by decide)) ⟨bm_in (by omega) (by decide), bm_in (by omega) (by decide), ?_⟩)
      rw [nI_clamp (by omega), nI_1, f'.l (by decide) (by decide), hD1.2.2.2.2.1 i (by omega)]
      refine ih (i + 1) _ (by omega) (f'.sl (by decide) (by decide)) (fun j hj => ?_) (fun j hj => ?_) (fun j hj => ?_)
      · rw [gs_ll, if_neg (by omega)]; exact z j hj
      · rw [gs_ll, if_neg (by omega), gs_il]; exact a j hj
      · rw [gs_ll]
        by_cases x : j = i
        · rw [if_pos ⟨rfl, x⟩, x]
        · rw [if_neg (fun y => x y.2)]; exact b j (by omega)
  -- nouns
  have l66 : ∀ n i (w' : bw_W), i + n = bm_nn (dd_X D) → by_fr [63, 65, 66] [] w1 w' → (∀ j, j < 236 → gw_l w' 63 j = by_zz D (8 * i) j) → (∀ j, j < i → gw_l w' 65 j = by_w (bm_nam (dd_X D) j) ∧ gw_i w' 66 j = nI (bm_knd (dd_X D) j)) → bw_G E (d + 0) mX12_takeLexicon 66 [some (.ref 50), some (.int (nI i)), none, none] [] w' (bw_qi Q) := by
    intro n
    induction n with
    | zero =>
      intro i w' hi f' z a
      refine wfX12_takeLexicon_66 ?_
      rw [f'.i5 (by decide), e34]
      have ei : i = bm_nn (dd_X D) := by omega
      rw [ei] at z a
      exact br_t (nI_le (by omega) (by omega)) (l145 48 0 w' rfl (f'.up (by decide) (by decide)) z a (fun j hj => absurd hj (Nat.not_lt_zero j)))
    | succ n ih =>
      intro i w' hi f' z a
      refine wfX12_takeLexicon_66 ?_
      have ii : vp_in (nI i) 6 := bm_in (by omega) (by decide)
      have o := hD1.2.2.1 i (by omega)
      rw [f'.i5 (by decide), e34, nI_clamp (by omega), f'.l (by decide) (by decide), f'.i (by decide) (by decide), o.1, o.2]
      refine br_f (nI_ge (by omega) (by omega)) ⟨ii, ii, ii, ii, ?_⟩
      have inner : ∀ p f (w2 : bw_W), f + p = 8 → by_fr [63, 65, 66] [] w1 w2 → (∀ j, j < 236 → gw_l w2 63 j = by_zz D (8 * i + f) j) → (∀ j, j < i + 1 → gw_l w2 65 j = by_w (bm_nam (dd_X D) j) ∧ gw_i w2 66 j = nI (bm_knd (dd_X D) j)) → bw_G E (d + 0) mX12_takeLexicon 100 [some (.ref 50), some (.int (nI i)), some (.int (nI f)), none] [] w2 (bw_qi Q) := by
        intro p
        induction p with
        | zero =>
          intro f w2 hf f2 z2 a2
          refine wfX12_takeLexicon_100 (br_t (nI_le (a := 8) (by omega) (by omega)) ?_)
          rw [nI_1]
          refine ih (i + 1) w2 (by omega) f2 (fun j hj => ?_) a2
          rw [z2 j hj, show 8 * (i + 1) = 8 * i + f by omega]
        | succ p ihp =>
          intro f w2 hf f2 z2 a2
          refine wfX12_takeLexicon_100 (br_f (nI_ge (a := f) (b := 8) (by omega) (by decide)) ?_)
          have e8 : (8 : Int32) * nI i = nI (8 * i) := by rw [nl_8, pk_mul]
          rw [e8, show (7 : Int32) = nI 7 from rfl, nI_add, nI_add, nI_add, nI_clamp (by omega), nI_clamp (by omega), nI_1, f2.l (by decide) (by decide), hD1.2.2.2.1 (8 * i + f) (by omega)]
          refine ⟨bm_in (by omega) (by decide), bm_in (by omega) (by decide), ihp (f + 1) _ (by omega) (f2.sl (by decide) (by decide)) (fun j hj => ?_) (fun j hj => ?_)⟩
          · rw [gs_ll]
            by_cases x : j = 7 + 8 * i + f
            · rw [if_pos ⟨rfl, x⟩]
              unfold by_zz
              rw [if_neg (by omega), if_pos (by omega), show j - 7 = 8 * i + f by omega]
            · rw [if_neg (fun y => x y.2), z2 j hj]
              unfold by_zz
              by_cases c7 : j < 7
              · rw [if_pos c7, if_pos c7]
              · rw [if_neg c7, if_neg c7]
                by_cases c8 : j < 7 + (8 * i + f)
                · rw [if_pos c8, if_pos (by omega)]
                · rw [if_neg c8, if_neg (by omega)]
          · rw [gs_ll, if_neg (by omega), gs_il]; exact a2 j hj
      refine inner 8 0 _ rfl ((f'.sl (by decide) (by decide)).si (by decide) (by decide)) (fun j hj => ?_) (fun j hj => ?_)
      · rw [gs_li, gs_ll, if_neg (by omega)]; exact z j hj
      · rw [gs_li, gs_ll, gs_ii, gs_il]
        by_cases x : j = i
        · rw [if_pos ⟨rfl, x⟩, if_pos ⟨rfl, x⟩, x]; exact ⟨rfl, rfl⟩
        · rw [if_neg (fun y => x y.2), if_neg (fun y => x y.2)]; exact a j (by omega)
  -- holes
  have l40 : ∀ n i (w' : bw_W), i + n = 3 → by_fr [63] [] w1 w' → (∀ j, j < 236 → gw_l w' 63 j = if j % 2 = 1 ∧ j < 2 * i then -1 else 0) → bw_G E (d + 0) mX12_takeLexicon 40 [some (.ref 50), some (.int (nI i)), none, none] [] w' (bw_qi Q) := by
    intro n
    induction n with
    | zero =>
      intro i w' hi f' z
      refine wfX12_takeLexicon_40 (br_t (nI_le (a := 3) (by omega) (by omega)) (l66 (bm_nn (dd_X D)) 0 w' (by omega) (f'.up (by decide) (by decide)) (fun j hj => ?_) (fun j hj => absurd hj (Nat.not_lt_zero j))))
      rw [z j hj]
      unfold by_zz
      by_cases c7 : j < 7
      · rw [if_pos c7]
        by_cases c2 : j % 2 = 1
        · rw [if_pos ⟨c2, by omega⟩, if_pos c2]
        · rw [if_neg (fun x => c2 x.1), if_neg c2]
      · rw [if_neg c7, if_neg (by omega), if_neg (by omega)]
    | succ n ih =>
      intro i w' hi f' z
      refine wfX12_takeLexicon_40 (br_f (nI_ge (a := i) (b := 3) (by omega) (by decide)) ?_)
      have e1 : (1 : Int32) + 2 * nI i = nI (1 + 2 * i) := by rw [nl_2, pk_mul, show (1 : Int32) = nI 1 from rfl, nI_add]
      rw [e1, nI_clamp (by omega), nI_1]
      refine ⟨bm_in (by omega) (by decide), ih (i + 1) _ (by omega) (f'.sl (by decide) (by decide)) (fun j hj => ?_)⟩
      rw [gs_ll]
      by_cases x : j = 1 + 2 * i
      · rw [if_pos ⟨rfl, x⟩, if_pos (by omega)]
      · rw [if_neg (fun y => x y.2), z j hj]
        by_cases c : j % 2 = 1 ∧ j < 2 * i
        · rw [if_pos c, if_pos (by omega)]
        · rw [if_neg c, if_neg (by omega)]
  have l18 : ∀ n i (w' : bw_W), i + n = 236 → by_fr [63] [] w1 w' → (∀ j, j < i → gw_l w' 63 j = 0) → bw_G E (d + 0) mX12_takeLexicon 18 [some (.ref 50), some (.int (nI i)), none, none] [] w' (bw_qi Q) := by
    intro n
    induction n with
    | zero =>
      intro i w' hi f' z
      refine wfX12_takeLexicon_18 (br_t (nI_le (a := 236) (by omega) (by omega)) (l40 3 0 w' rfl f' (fun j hj => ?_)))
      rw [z j (by omega), if_neg (by omega)]
    | succ n ih =>
      intro i w' hi f' z
      refine wfX12_takeLexicon_18 (br_f (nI_ge (a := i) (b := 236) (by omega) (by decide)) ⟨bm_in (by omega) (by decide), ?_⟩)
      rw [nI_clamp (by omega), nI_1]
      refine ih (i + 1) _ (by omega) (f'.sl (by decide) (by decide)) (fun j hj => ?_)
      rw [gs_ll]
      by_cases x : j = i
      · rw [if_pos ⟨rfl, x⟩]
      · rw [if_neg (fun y => x y.2)]; exact z j (by omega)
  exact l18 236 0 w1 rfl (by_fr.rf _ _ _) (fun j hj => absurd hj (Nat.not_lt_zero j))
/-- a script that was only read -/
theorem by_S.sl {w' : bw_W} {n : Nat} (hw : bm_wfS K S) (hn : (st_C S).length ≤ n) (h : by_S S w) (hf : by_fr [60, 61, 62] by_tw w w') (k1 : ∀ j, j ≠ n → gw_i w' 62 j = gw_i w 62 j) (k2 : ∀ j, ¬ (48 * n ≤ j ∧ j < 48 * n + 48) → gw_i w' 60 j = gw_i w 60 j) (k3 : ∀ j, ¬ (12 * n ≤ j ∧ j < 12 * n + 12) → gw_l w' 61 j = gw_l w 61 j) : by_S S w' := by
  obtain ⟨h1, h2, h3, h4, h5, h6, h7⟩ := h
  refine ⟨h1.fr hf (by decide) (by decide), h2.fr hf (by decide) (by decide) (by decide), by rw [hf.fl (by decide) (by decide)]; exact h3, h4.fr hf (by decide) (by decide), h5.fr hf (by decide) (by decide), ⟨by rw [hf.i5 (by decide)]; exact h6.1, fun m hm => ?_⟩, h7.fr hf (by decide)⟩
  rw [k1 m (by omega)]
  refine ⟨(h6.2 m hm).1, fun i hi => ?_⟩
  have o := (h6.2 m hm).2 i hi
  have := (hw.2.2.2.2.2.2.2 m hm).2.1
  unfold by_st at o ⊢
  rw [k2 _ (by omega), k2 _ (by omega), k2 _ (by omega), k2 _ (by omega), k3 _ (by omega)]; exact o
abbrev by_txl : List Nat := [52, 53, 54, 55, 56, 57, 58, 59, 60, 61, 62, 63, 65, 66, 67, 68, 69, 70]
abbrev by_txf : List Nat := [10, 3, 4, 5, 6, 7, 8, 9, 11, 20, 21, 2, 25, 34, 35, 42, 51]
theorem by_S.lx {w' : bw_W} (h : by_S S w) (hf : by_fr by_ll by_lf w w') : by_S S w' := h.fr hf (by unfold by_sc; decide) (by unfold by_sf; decide)
theorem qm_fault {a : Int32} (hw : bm_wfS K S) (h : by_S S w) (hq : ∀ w', by_fr by_txl by_txf w w' → by_S S w' → Q (br_fault S a) w') : bw_ri E (d + 9) mX12_fault [.ref 50, .int a] w Q := by
  have h4 := hw.2.2.2.2.2.2.1
  unfold br_fault at hq
  refine wfX12_fault ⟨fun z => ⟨fun z1 => ?_, fun z1 => ?_⟩, fun z => ?_⟩
  · have q := hq w (by_fr.rf _ _ _) h
    rw [if_neg z, if_neg z1] at q; exact q
  · refine ⟨Q, ys_rScript (d := d + 2) (n := 4) (by decide) hw.1 h.1 (fun w' f k1 k2 k3 _ => ?_), fun _ _ h => h⟩
    have q := hq w' (f.up (by decide) (by decide)) (h.sl hw h4 f k1 k2 k3)
    rw [if_neg z, if_pos z1] at q; exact q
  · refine ⟨Q, ys_rLex (d := d) hw.1 h.1 (fun w' f _ => ?_), fun _ _ h => h⟩
    have q := hq w' (f.up (by decide) (by decide)) (h.lx f)
    rw [if_pos z] at q; exact q
theorem qm_text {a : Int32} (hw : bm_wfS K S) (h : by_S S w) (hq : ∀ w', by_fr by_txl by_txf w w' → by_S (st_text S a) w' → Q (br_text S a) w') : bw_ri E (d + 9) mX12_text [.ref 50, .int a] w Q := by
  have h4 := hw.2.2.2.2.2.2.1
  have ht := hw.1.1
  unfold br_text st_text at hq
  refine wfX12_text ⟨fun z => ⟨fun z1 => ?_, fun z1 => ?_⟩, fun z => ?_⟩
  · have q := hq w (by_fr.rf _ _ _)
    rw [if_neg z, if_neg z1, if_neg z, if_neg z1] at q; exact q h
  · rw [if_neg z, if_neg z, if_pos z1, if_pos z1] at hq
    have e7 : gw_i w 50 25 = nI (st_C S).length := h.2.2.2.2.2.1.1
    rw [e7, show (4 : Int32) = nI 4 from rfl, nI_leI (a := 4) (b := (st_C S).length) (by decide) (by omega)]
    refine ⟨fun y => ?_, fun y => ?_⟩
    · rw [if_pos y, if_pos y] at hq
      exact hq w (by_fr.rf _ _ _) h
    rw [if_neg y, if_neg y] at hq
    refine ⟨fun v w3 => v = br_scr (st_sc S) ∧ by_fr [60, 61, 62] by_tw w w3 ∧ by_S S w3 ∧ by_got (st_C S).length w3 (st_sc S), ys_rScript (d := d + 2) (n := (st_C S).length) (by omega) hw.1 h.1 (fun w' f k1 k2 k3 g => ⟨rfl, f, h.sl hw (Nat.le_refl _) f k1 k2 k3, g⟩), ?_⟩
    rintro _ w3 ⟨rfl, f3, h3, g3⟩
    have o := st_sc_ok (S := S)
    cases e : st_sc S with
    | inl e0 =>
      rw [e] at hq o
      have he : e0 ≤ (st_t S).length := o
      exact br_nt (nI_ne_m1 (by omega)) (hq w3 (f3.up (by decide) (by decide)) h3)
    | inr L =>
      rw [e] at hq o g3
      dsimp only at hq
      refine br_nf rfl ?_
      obtain ⟨k1, k2, k3, k4, k5, k6, k7⟩ := h3
      rw [k6.1, Int32.add_sub_cancel, nI_1]
      generalize hw4 : sw_i (sw_i w3 50 2 0) 50 25 (nI ((st_C S).length + 1)) = w4
      have f4 : by_fr [] [2, 25] w3 w4 := by rw [← hw4]; exact ((by_fr.rf _ _ _).s5 (by decide)).s5 (by decide)
      refine hq w4 ((f3.up (by decide) (by decide)).tr (f4.up (by decide) (by decide))) ⟨⟨?_, fun i hi => absurd hi (Nat.not_lt_zero i)⟩, k2.fr f4 (fun c q => by cases q) (by decide) (by decide), by rw [f4.fl (by decide) (by decide)]; exact k3, k4.fr f4 (by decide) (by decide), k5.fr f4 (by decide) (by decide), ⟨?_, fun n hn => ?_⟩, k7.fr f4 (by decide)⟩
      · rw [← hw4, gs_ii, if_neg (by omega), gs_ii, if_pos ⟨rfl, rfl⟩]; rfl
      · show gw_i w4 50 25 = nI (st_C S ++ [L]).length
        rw [List.length_append, ← hw4, gs_ii, if_pos ⟨rfl, rfl⟩]; rfl
      · have hn' : n < (st_C S ++ [L]).length := hn
        rw [List.length_append] at hn'
        have hn2 : n < (st_C S).length + 1 := hn'
        show gw_i w4 62 n = nI (bm_s (st_C S ++ [L]) n).length ∧ ∀ i, i < (bm_s (st_C S ++ [L]) n).length → by_st (bm_p (bm_s (st_C S ++ [L]) n) i) (12 * n + i) w4
        rw [bm_s_app hn2, f4.i (by decide) (by decide)]
        by_cases x : n = (st_C S).length
        · rw [if_pos x, x]
          exact ⟨g3.1, fun i hi => (g3.2 i hi).fr f4 (by decide) (by decide)⟩
        · rw [if_neg x]
          exact ⟨(k6.2 n (by omega)).1, fun i hi => ((k6.2 n (by omega)).2 i hi).fr f4 (by decide) (by decide)⟩
  · rw [if_pos z, if_pos z] at hq
    have n1 : ¬ a = 1 := by rw [z]; decide
    refine ⟨fun v w3 => v = br_lex (st_lx S) ∧ by_fr by_ll by_lf w w3 ∧ by_gotL w3 (st_lx S), ys_rLex (d := d) hw.1 h.1 (fun w' f g => ⟨rfl, f, g⟩), ?_⟩
    rintro _ w3 ⟨rfl, f3, g3⟩
    have h3 := h.lx f3
    have o := st_lx_ok (S := S)
    cases e : st_lx S with
    | inl e0 =>
      rw [e] at hq o
      have he : e0 ≤ (st_t S).length := o
      exact br_nt (nI_ne_m1 (by omega)) (br_nt n1 (hq w3 (f3.up (by decide) (by decide)) h3))
    | inr D =>
      rw [e] at hq o g3
      dsimp only at hq
      have f4 : by_fr [] [2] w3 (sw_i w3 50 2 0) := (by_fr.rf _ _ _).s5 (by decide)
      have g4 : by_D D (sw_i w3 50 2 0) := by_D.fr g3 f4 (fun c q => by cases q) (by decide) (by decide)
      refine br_nf rfl ⟨Q, ys_take (d := d + 8) o.1 g4 (fun w' f x5 n5 e42 e51 => ?_), fun _ _ h => h⟩
      have f4t : gw_i w' 50 2 = 0 := by rw [f.i5 (by decide), gs_ii, if_pos ⟨rfl, rfl⟩]
      refine hq w' (((f3.up (by decide) (by decide)).tr (f4.up (by decide) (by decide))).tr (f.up (by decide) (by decide))) ⟨⟨f4t, fun i hi => absurd hi (Nat.not_lt_zero i)⟩, x5, n5, ⟨e42, fun j hj => absurd hj (Nat.not_lt_zero j)⟩, ⟨e51, fun p hp => by cases hp⟩, ?_, ?_⟩
      · exact (h3.2.2.2.2.2.1.fr f4 (by decide) (by decide) (by decide) (by decide)).fr f (by decide) (by decide) (by decide) (by decide)
      · exact (h3.2.2.2.2.2.2.fr f4 (by decide)).fr f (by decide)
end MTEXT
