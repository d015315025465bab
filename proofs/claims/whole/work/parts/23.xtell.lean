section XTELL
variable {E : bw_E} {d : Nat} {w : bw_W} {X : bm_X} {N : bm_N}
theorem xv_cell (hN : bx_N N w) {h : Nat} (hh : h < 3) : gw_l w 32 ((48 + nI h).toNatClampNeg) = lN (bm_hv (bm_hol N h)) := by
  rw [nl_48, nI_add, nI_clamp (by omega)]
  exact hN.2.1 h hh
theorem xv_in {h : Nat} (hh : h < 3) : vp_in (48 + nI h) 52 := by
  rw [nl_48, nI_add]
  exact bm_in (by omega) (by decide)
theorem xv_none (hN : bx_N N w) {h : Nat} (hh : h < 3) (e : bm_hol N h = none) : gw_l w 32 ((48 + nI h).toNatClampNeg) = 0 := by
  rw [xv_cell hN hh, e]; rfl
theorem xv_some (hN : bx_N N w) (hW : bm_wfN X N) (hX : bm_wfX X) {h n c : Nat} (hh : h < 3) (e : bm_hol N h = some (n, c)) : ¬ gw_l w 32 ((48 + nI h).toNatClampNeg) = 0 := by
  have h1 := hW.2 h n c hh e
  have h2 := hX.1
  rw [xv_cell hN hh, e, bm_l0 (by simp only [bm_hv]; omega)]
  simp only [bm_hv]; omega
theorem xv_sub (hN : bx_N N w) {h n c : Nat} (hh : h < 3) (e : bm_hol N h = some (n, c)) : gw_l w 32 ((48 + nI h).toNatClampNeg) - 1 = lN (100 * n + c) := by
  rw [xv_cell hN hh, e, show (1 : Int64) = lN 1 from rfl, lN_sub (by simp only [bm_hv]; omega)]
  simp only [bm_hv]
  congr 1
  omega
theorem xv_noun (hN : bx_N N w) (hW : bm_wfN X N) (hX : bm_wfX X) {h n c : Nat} (hh : h < 3) (e : bm_hol N h = some (n, c)) : vX7_nounIn w (nI h) = nI n := by
  have h1 := hW.2 h n c hh e
  have h2 := hX.1
  unfold vX7_nounIn
  rw [xv_sub hN hh e, lN_i, nl_100, pk_div (by omega) (by decide) (by decide)]
  congr 1
  omega
theorem xv_count (hN : bx_N N w) (hW : bm_wfN X N) (hX : bm_wfX X) {h n c : Nat} (hh : h < 3) (e : bm_hol N h = some (n, c)) : vX7_countIn w (nI h) = nI c := by
  have h1 := hW.2 h n c hh e
  have h2 := hX.1
  unfold vX7_countIn
  rw [xv_sub hN hh e, lN_i, nl_100, pk_rem (by omega) (by decide) (by decide)]
  congr 1
  omega
theorem xv_num (hN : bx_N N w) (hW : bm_wfN X N) (hX : bm_wfX X) {h n c : Nat} (hh : h < 3) (e : bm_hol N h = some (n, c)) : vX7_numberIn w (nI h) = nI (bm_num c) := by
  have h1 := hW.2 h n c hh e
  have h2 := hX.1
  unfold vX7_numberIn
  rw [xv_sub hN hh e, show (100 : Int64) = lN 100 from rfl, bm_lrem (by omega) (by decide) (by decide), show (1 : Int64) = lN 1 from rfl, bm_leq (by omega) (by decide)]
  have e2 : (100 * n + c) % 100 = c := by omega
  rw [e2]
  unfold bm_num
  by_cases hc : c = 1
  · rw [if_neg (fun q => q hc), if_pos hc]; rfl
  · rw [if_pos hc, if_neg hc]; rfl
theorem xs_def {Q : Int32 → bw_W → Prop} (hN : bx_N N w) (hW : bm_wfN X N) {n k u : Nat} (hn : n < 6) (hk : k < 4) (hu : u < 2) (hq : Q (nI (bm_def N n k u)) w) : bw_ri E (d + 0) mX7_defaultOf [.ref 31, .int (nI n), .int (nI k), .int (nI u)] w Q := by
  have f : ∀ j, j < 48 → (gw_l w 32 j = 0 ↔ bm_frm N j = []) := fun j hj => by rw [hN.1 j hj, bx_w0 (hW.1 j hj)]
  refine wfX7_defaultOf ?_
  rw [nl_8, nl_2, pk_mul, pk_mul, nI_add, nI_add, nI_add, nI_clamp (by omega), nI_clamp (by omega), nI_clamp (by omega), nI_clamp (by omega)]
  rw [f _ (by omega), f _ (by omega), f _ (by omega), f _ (by omega)]
  rw [show n * 8 + k * 2 + u = 8 * n + 2 * k + u by omega, show n * 8 + u = 8 * n + u by omega, show n * 8 + k * 2 = 8 * n + 2 * k by omega, show n * 8 = 8 * n by omega]
  unfold bm_def at hq
  refine ⟨bm_in (by omega) (by decide), fun c1 => ⟨bm_in (by omega) (by decide), fun c2 => ⟨bm_in (by omega) (by decide), fun c3 => ⟨bm_in (by omega) (by decide), fun c4 => ?_, fun c4 => ?_⟩, fun c3 => ?_⟩, fun c2 => ?_⟩, fun c1 => ?_⟩
  · rw [if_neg (fun q => q c1), if_neg (fun q => q c2), if_neg (fun q => q c3), if_neg (fun q => q c4)] at hq; exact hq
  · rw [if_neg (fun q => q c1), if_neg (fun q => q c2), if_neg (fun q => q c3), if_pos c4] at hq; exact hq
  · rw [if_neg (fun q => q c1), if_neg (fun q => q c2), if_pos c3] at hq; exact hq
  · rw [if_neg (fun q => q c1), if_pos c2] at hq; exact hq
  · rw [if_pos c1] at hq; exact hq
end XTELL
