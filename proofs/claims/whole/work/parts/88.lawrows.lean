theorem zl_wd0 : ∀ z ∈ ([.methodLink "BentWordsLaw" 42 yL_noun, .static yL_noun, .initialized yL_noun.cls] : List Cond), z ∈ bw_tbl := List.forall_mem_cons.mpr ⟨bw_mem5 123 (by decide +kernel) rfl, List.forall_mem_cons.mpr ⟨bw_mem5 124 (by decide +kernel) rfl, List.forall_mem_cons.mpr ⟨bw_mem1 0 (by decide +kernel) rfl, fun _ h => absurd h List.not_mem_nil⟩⟩⟩
/-! the law's frame: its judgement, its own rows -/
abbrev mL_law : bw_M := (x, code, 7, ret)
def zl_X (E : bw_E) (b L : Nat) (xs : Nat → Int32) : Launch → State → Array Value → Code → Prop := fun l s args _ => l.stackTraces = false ∧ args = #[Value.ref b] ∧ va_X b L xs s s.heap ∧ b < s.heap.size ∧ E.1 4000 = b ∧ s.heap.size ≤ E.1 0 ∧ gj_T E s
def zl_Z : List Frame → Array Value → State → State → Prop := fun below args s => lw_Z below args s
abbrev zl_G (E : bw_E) (b L : Nat) (xs : Nat → Int32) (pc : Nat) (Lc : List (Option Value)) (st : List Value) (w : bw_W) (n0 k0 : Nat) : Prop := gj_G E room_1 mL_law (bk_A E) (zl_X E b L xs) zl_Z pc Lc st w n0 k0
abbrev zl_L (i : Int32) : List (Option Value) := [some (.ref 4000), some (.ref 0), some (.ref 50), some (.ref 77), some (.int i), none, none]
section BLR
variable {E : bw_E} {b L : Nat} {xs : Nat → Int32} {pc : Nat} {Lc : List (Option Value)} {st : List Value} {w : bw_W} {n0 k0 : Nat}
theorem zl_nb {s : State} {l : Launch} {args : Array Value} {c : Code} (hX : zl_X E b L xs l s args c) : ¬ bk_A E b := by
  intro q
  have h1 := hX.2.2.2.1
  have h2 := hX.2.2.2.2.2.1
  have q1 : E.1 0 ≤ b := q
  omega
theorem zl_iaload {i : Int32} (hd : decode code pc = .ok (.iaload, 1)) (hin : vp_in i L) (kk : zl_G E b L xs (pc + 1) Lc (.int (xs i.toNatClampNeg) :: st) w n0 k0) : zl_G E b L xs pc Lc (.int i :: .ref 4000 :: st) w n0 k0 := by
  intro p l e s m args below meth c H locs ls hC hX hP hS hL
  have hb : E.1 4000 = b := hX.2.2.2.2.1
  show W p l e room_1 s m args below meth c H locs n0 k0 (zl_Z below args s) (F0 m pc ls (.int i :: .ref (E.1 4000) :: st.map (bw_v E)))
  rw [hb]
  exact va_sld (cc := code) hC.1.1 hC.1.2.1 hX.2.2.1 hX.2.2.2.1 (zl_nb hX) hS hin hd (kk p l e s m args below meth c H locs ls hC hX hP hS hL)
theorem zl_alen (hd : decode code pc = .ok (.arraylength, 1)) (kk : zl_G E b L xs (pc + 1) Lc (.int (nI L) :: st) w n0 k0) : zl_G E b L xs pc Lc (.ref 4000 :: st) w n0 k0 := by
  intro p l e s m args below meth c H locs ls hC hX hP hS hL
  have hb : E.1 4000 = b := hX.2.2.2.2.1
  show W p l e room_1 s m args below meth c H locs n0 k0 (zl_Z below args s) (F0 m pc ls (.ref (E.1 4000) :: st.map (bw_v E)))
  rw [hb]
  exact va_slen (cc := code) hC.1.1 hC.1.2.1 hX.2.2.1 hX.2.2.2.1 (zl_nb hX) hS hd (kk p l e s m args below meth c H locs ls hC hX hP hS hL)
/-- script[i + k] onto the stack -/
theorem zl_arg {j k : Nat} {n : Int} (hn : Int32.ofInt n = nI k) (h0 : decode code pc = .ok (.aload_n 0, 1)) (h1 : decode code (pc + 1) = .ok (.iload 4, 2)) (h2 : decode code (pc + 1 + 2) = .ok (.iconst n, 1)) (h3 : decode code (pc + 1 + 2 + 1) = .ok (.iadd, 1)) (h4 : decode code (pc + 1 + 2 + 1 + 1) = .ok (.iaload, 1)) (hl0 : Lc[0]? = some (some (.ref 4000))) (hl4 : Lc[4]? = some (some (.int (nI j)))) (hj : j + k < L) (hL : L ≤ 3072) (kk : zl_G E b L xs (pc + 6) Lc (.int (xs (j + k)) :: st) w n0 k0) : zl_G E b L xs pc Lc st w n0 k0 := by
  refine gj_aload_n (i := 0) h0 rfl hl0 ?_
  refine gj_iload (i := 4) h1 hl4 ?_
  refine gj_iconst h2 hn ?_
  refine gj_iadd h3 ?_
  rw [nI_add]
  refine zl_iaload h4 (bm_in hj (by omega)) ?_
  rw [nI_clamp (by omega)]
  exact kk
/-- x != 0 onto the stack -/
theorem zl_bool {a : Int32} (h0 : decode code pc = .ok (.ifCond .eq 7, 3)) (h1 : decode code (pc + 3) = .ok (.iconst 1, 1)) (h2 : decode code (pc + 3 + 1) = .ok (.goto 4, 3)) (h3 : decode code (pc + 7) = .ok (.iconst 0, 1)) (kk : zl_G E b L xs (pc + 8) Lc (.int (bw_b (decide (¬ a = 0))) :: st) w n0 k0) : zl_G E b L xs pc Lc (.int a :: st) w n0 k0 := by
  refine gj_if_eq (tgt := pc + 7) h0 (by omega) (fun c => ?_) (fun c => ?_)
  · refine gj_iconst (v := 0) h3 (by decide) ?_
    rw [decide_eq_false (not_not_intro c)] at kk
    exact kk
  · refine gj_iconst (v := 1) h1 (by decide) ?_
    refine gj_goto (tgt := pc + 8) h2 (by omega) ?_
    rw [decide_eq_true c] at kk
    exact kk
theorem zl_rm (hn : n0 + 1 ≤ 601024) (hk : k0 + 6 ≤ 7293034) : (14 + 1 ≤ room_1.frames ∧ 40 * (14 + 1) ≤ room_1.locals) ∧ n0 ≤ room_1.cells ∧ k0 ≤ room_1.slots :=
  ⟨⟨Nat.le_of_ble_eq_true rfl, Nat.le_of_ble_eq_true rfl⟩, by show n0 ≤ 601024; omega, by show k0 ≤ 7293034; omega⟩
theorem zl_end (h1 : n0 ≤ 601024) (h2 : k0 ≤ 7293034) : zl_G E b L xs 1598 Lc [] w n0 k0 := by
  intro p l e s m args below meth c H locs ls hC hX hP hS hL
  obtain ⟨g1, rfl, g3, g4, g5, g6, g7⟩ := hX
  refine W.widen (k := 601024) (n := 7293034) h1 h2 ?_
  refine va_forget (fun q hq => Nat.le_trans g6 (hS.2.2 q hq)) ?_
  refine lv_iconst (cc := code) (v := 1) hC.1.1 hC.1.2.1 dL_law_1598 (by decide) ?_
  exact lw_ret hC.1.1 hC.1.2.1 hC.1.2.2.2.1 hC.1.2.2.2.2.2.2.1 dL_law_1599
/-- the call of the law's own noun -/
theorem zl_wdN : GoodIn bw_tbl (va_wsS "BentWordsLaw" 42 yL_noun gj_wdN) := by
  have hb : ∀ z ∈ gj_wdN, z ∈ bw_tbl := fun z hz => (List.mem_cons.mp hz).elim (fun e => by rw [e]; exact bw_mem5 125 (by decide +kernel) rfl) (fun h => h)
  intro z hz
  refine bw_good z ?_
  unfold va_wsS at hz
  rcases List.mem_append.mp hz with hz | hz
  · exact zl_wd0 z hz
  · exact hb z hz
theorem zl_callN {As : List Value} {st0 : List Value} {Q' : Option Value → bw_W → Prop} (hr : ∀ l : Launch, l.stackTraces = false → Met l yL_noun gj_wdN gj_RN (gj_PT E As w) (bw_Q E Q') 1 6 (bw_A E)) (hn : As.length = 4) (hst : st0 = As.reverse ++ st) (hw : (st.map fun v => v.category).sum ≤ 8) (h1 : n0 + 1 ≤ 601024) (h2 : k0 + 6 ≤ 7293034) (hd : decode code pc = .ok (.invokestatic 42, 3)) (kk : ∀ r w', Q' r w' → zl_G E b L xs (pc + 3) Lc (r.toList ++ st) w' (n0 + 1) (k0 + 6)) : zl_G E b L xs pc Lc st0 w n0 k0 := by
  intro p l e s m args below meth c H locs ls hC hX hP hS hL
  have ht := hC.1.2.2.2.2.2.1
  subst hst
  have := vx_runSW (p := p) (l := l) (e := e) (below := below) (meth := meth) (R := room_1) (As := As.map (bw_v E)) (rest := st.map (bw_v E)) (g := F0 m pc ls ((As.reverse ++ st).map (bw_v E))) (cells := n0) (slots := k0) (locs := locs) (S := ⟨hC.1.1, hC.1.2.1, hC.1.2.2.1, hC.1.2.2.2.2.1, ht⟩) (hr l hX.1) (index := 42) (n := 4) (bytes := cL_noun) (maxL := 5) (ret := some .int) (hh := [(0, 10, 13, 13)]) (H := H)
    (vx_cwSW 4 ht zl_wdN rfl rfl rfl ⟨by decide, by decide, by decide +kernel⟩ ⟨Nat.le_of_ble_eq_true rfl, Nat.le_of_ble_eq_true rfl⟩)
    ⟨gj_PT_blind E As w, fun U hU hW => ⟨gj_pre As hC hP hS U hU hW, hX.2.2.2.2.2.2.go (fun a h1 h2 => by rw [hU]; exact hS.2.1 a h1 (hC.2.2 a h1 h2)) hW⟩⟩ rfl (by rw [List.length_map]; exact hn) hL.1 (by simp) (by rw [bk_cat]; simpa [JFrame.monitorRoom] using hw) hd ⟨h1, h2⟩
  exact gj_back (st := st) (Q' := Q') hC hX hS hL this kk
end BLR
theorem zl_wk5 (i a5 a6 : Int32) : ∀ (k : Nat) (v : Value), (zl_L i)[k]? = some (some v) → ([some (.ref 4000), some (.ref 0), some (.ref 50), some (.ref 77), some (.int i), some (.int a5), some (.int a6)] : List (Option Value))[k]? = some (some v)
  | 0, _, h => h
  | 1, _, h => h
  | 2, _, h => h
  | 3, _, h => h
  | 4, _, h => h
  | 5, _, h => by cases h
  | 6, _, h => by cases h
  | k + 7, _, h => by simp at h
theorem zl_fr77 (w : bw_W) (v : Int64) : bw_fr [77] w (sw_l w 77 0 v) := fun c hc => by
  have h : ¬ c = 77 := fun e => hc (by rw [e]; exact List.mem_cons_self)
  simp only [sw_l, cw_l, if_neg h, and_self]
theorem zl_gl77 (w : bw_W) (v : Int64) : gw_l (sw_l w 77 0 v) 77 0 = v := by simp [gw_l, sw_l, cw_l]
theorem zl_noun77 {E : bw_E} {d : Nat} {S : bm_S} {K : Nat} {w : bw_W} {a0 a1 : Int32} {v : Nat} {t : Int64} (h : bv_JS S K w) (hv : br_noun (st_X S) (st_N S) a0 a1 = some v) (g : gw_l w 77 0 = t) : bw_ri E (d + 2) mX12_noun [.ref 50, .int a0, .int a1] w (fun b w' => b = nI v ∧ gw_i w' 50 0 = 0 ∧ bv_JS S K w' ∧ gw_l w' 77 0 = t) := by
  obtain ⟨a, b, c, e⟩ := id h
  rcases c with c | c
  · have hn : br_noun (st_X S) (st_N S) a0 a1 = none := by
      unfold br_noun
      rw [c.2.2.2.2.2.2.2.1, bm_ix0]
    rw [hn] at hv
    cases hv
  · refine qm_noun c.2.1 c.N a.2.2.1.1 a.2.1 ?_
    rw [hv]
    exact ⟨rfl, by rw [gs_ii, if_pos ⟨rfl, rfl⟩], h.t50, g⟩
theorem zl_up {K : Nat} {w : bw_W} (h : bv_J K w) : bv_J (K + 40) w := by
  obtain ⟨S, a, b, c, e⟩ := bv_JS.of h
  exact bv_JS.J (S := S) ⟨a.up (by omega), b, c, e⟩
