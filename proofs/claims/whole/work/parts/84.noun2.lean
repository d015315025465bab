/-! noun of the class: what it answers, where it throws -/
theorem fg_BentWords_187 : bw_fg "BentWords" 187 3 13 2 2 := ⟨RX3, TX3, rfl, by decide, in_X3, bw_mem1 109 (by decide +kernel) rfl, rfl⟩
theorem fg_BentWords_190 : bw_fg "BentWords" 190 3 13 1 2 := ⟨RX3, TX3, rfl, by decide, in_X3, bw_mem1 105 (by decide +kernel) rfl, rfl⟩
def bx_nok (w : bw_W) (a0 a1 : Int32) : Prop := ((¬ (a0 < 0)) ∧ (¬ ((gw_i w 18 0) ≤ a0))) ∧ (¬ a1 < 0) ∧ a1 ≤ 2
theorem wx_noun {E : bw_E} {d : Nat} {w : bw_W} {Q : Int32 → bw_W → Prop} {a0 a1 : Int32} (hk : bx_nok w a0 a1) (h : (a1 = 0 → vp_in a0 6 ∧ Q (gw_i w 20 a0.toNatClampNeg) w) ∧ (¬ a1 = 0 → (a1 = 1 → vp_in a0 6 ∧ bw_ri E (d + 1) mX11_lettersOf [.long (gw_l w 19 a0.toNatClampNeg)] w Q) ∧ (¬ a1 = 1 → bw_ri E (d + 1) mX11_formsToldOf [.ref 0, .int a0] w Q))) : bw_ri E (d + 2) mX11_noun [.ref 0, .int a0, .int a1] w Q := by
  obtain ⟨h0, h1, h2⟩ := hk
  refine bw_enter rfl (Nat.le_of_ble_eq_true rfl) ?_
  refine bw_aload_n (i := 0) dX11_noun_0 rfl rfl ?_
  refine bw_iload_n (i := 1) dX11_noun_1 rfl rfl ?_
  refine bw_cVb (As := [.int a0]) (st := []) (Q' := fun v w1 => decide ((¬ (a0 < 0)) ∧ (¬ ((gw_i w 18 0) ≤ a0))) = v ∧ w = w1) cv_BentWords_180 rfl rfl (fs_X11_hasNoun (d := d + 1) ⟨rfl, rfl⟩) rfl rfl (Nat.le_of_ble_eq_true rfl) dX11_noun_2 (fun v w1 hv => ?_)
  obtain ⟨rfl, rfl⟩ := hv
  refine bw_ifb_eq (tgt := 17) dX11_noun_5 (by decide) (fun c => absurd h0 (of_decide_eq_false c)) (fun c => ?_)
  refine bw_iload_n (i := 2) dX11_noun_8 rfl rfl ?_
  refine bw_if_lt (tgt := 17) dX11_noun_9 (by decide) (fun c => absurd c h1) (fun _ => ?_)
  refine bw_iload_n (i := 2) dX11_noun_12 rfl rfl ?_
  refine bw_iconst (v := 2) dX11_noun_13 (by decide) ?_
  refine bw_icmp_le (tgt := 25) dX11_noun_14 (by decide) (fun _ => ?_) (fun c => absurd h2 c)
  refine bw_iload_n (i := 2) dX11_noun_25 rfl rfl ?_
  refine bw_if_ne (tgt := 39) dX11_noun_26 (by decide) (fun c => ?_) (fun c => ?_)
  · replace h := h.2 c
    refine bw_iload_n (i := 2) dX11_noun_39 rfl rfl ?_
    refine bw_iconst (v := 1) dX11_noun_40 (by decide) ?_
    refine bw_icmp_ne (tgt := 59) dX11_noun_41 (by decide) (fun c => ?_) (fun c => ?_)
    · refine bw_aload_n (i := 0) dX11_noun_59 rfl rfl ?_
      refine bw_iload_n (i := 1) dX11_noun_60 rfl rfl ?_
      refine bw_cVi (As := [.int a0]) (st := []) cv_BentWords_197 rfl rfl (h.2 c) rfl rfl (Nat.le_of_ble_eq_true rfl) dX11_noun_61 (fun v w3 hv => ?_)
      exact bw_ireturn dX11_noun_64 rfl rfl ⟨_, rfl, hv⟩
    · obtain ⟨hi, h⟩ := h.1 c
      refine bw_aload_n (i := 0) dX11_noun_44 rfl rfl ?_
      refine bw_getr (r := 18) fg_BentWords_44 rfl rfl dX11_noun_45 ?_
      refine bw_getr (r := 19) fg_BentWords_190 rfl rfl dX11_noun_48 ?_
      refine bw_iload_n (i := 1) dX11_noun_51 rfl rfl ?_
      refine bw_laload (n := 6) (x := 0) rfl hi dX11_noun_52 ?_
      refine bw_cSi (As := [.long (gw_l w 19 a0.toNatClampNeg)]) (st := []) cs_BentWords_193 h rfl rfl (Nat.le_of_ble_eq_true rfl) dX11_noun_53 (fun v w3 hv => ?_)
      refine bw_goto (tgt := 64) dX11_noun_56 (by decide) ?_
      exact bw_ireturn dX11_noun_64 rfl rfl ⟨_, rfl, hv⟩
  · obtain ⟨hi, h⟩ := h.1 c
    refine bw_aload_n (i := 0) dX11_noun_29 rfl rfl ?_
    refine bw_getr (r := 18) fg_BentWords_44 rfl rfl dX11_noun_30 ?_
    refine bw_getr (r := 20) fg_BentWords_187 rfl rfl dX11_noun_33 ?_
    refine bw_iload_n (i := 1) dX11_noun_36 rfl rfl ?_
    refine bw_iaload (n := 6) (x := 0) rfl hi dX11_noun_37 ?_
    exact bw_ireturn dX11_noun_38 rfl rfl ⟨_, rfl, h⟩
theorem bx_nok_iff {X : bm_X} {N : bm_N} {w : bw_W} {a0 a1 : Int32} (hX : bx_X X w) (hx : bm_wfX X) : bx_nok w a0 a1 ↔ br_noun X N a0 a1 ≠ none := by
  have h6 := hx.1
  have h2 : ∀ a : Int32, a ≤ 2 ↔ ¬ (nI 2 < a) := fun a => by
    show a ≤ nI 2 ↔ ¬ (nI 2 < a)
    rw [fa_le, fa_lt]
    omega
  unfold bx_nok
  rw [hX.1, bm_x_iff (by omega), h2, bm_k_iff (n := 3) rfl (by decide)]
  unfold br_noun
  cases e0 : bm_ix a0 (bm_nn X) with
  | none => simp
  | some n =>
    cases e1 : bm_ix a1 3 with
    | none => simp
    | some v => simp
theorem qx_noun {E : bw_E} {d : Nat} {w : bw_W} {X : bm_X} {N : bm_N} {Q : Int32 → bw_W → Prop} {a0 a1 : Int32} {v : Nat} (hX : bx_X X w) (hN : bx_N N w) (hW : bm_wfN X N) (hx : bm_wfX X) (hn : br_noun X N a0 a1 = some v) (hq : Q (nI v) w) : bw_ri E (d + 2) mX11_noun [.ref 0, .int a0, .int a1] w Q := by
  have h6 := hx.1
  refine wx_noun ((bx_nok_iff (N := N) hX hx).mpr (by rw [hn]; simp)) ?_
  unfold br_noun at hn
  cases e0 : bm_ix a0 (bm_nn X) with
  | none => rw [e0] at hn; cases hn
  | some n =>
    rw [e0] at hn
    cases e1 : bm_ix a1 3 with
    | none => rw [e1] at hn; cases hn
    | some u =>
      rw [e1] at hn
      obtain ⟨g0, rfl⟩ := bm_ix_some e0
      obtain ⟨g1, rfl⟩ := bm_ix_some e1
      have hn := Option.some.inj hn
      subst hn
      rw [nI_z (by omega), nl_1, nI_eq (by omega) (by decide), nI_clamp (by omega)]
      refine ⟨fun z => ⟨bm_in (by omega) (by decide), ?_⟩, fun z => ⟨fun y => ⟨bm_in (by omega) (by decide), ?_⟩, fun y => ?_⟩⟩
      · rw [if_pos z] at hq
        rw [(hX.2.2.1 n g0).2]; exact hq
      · rw [if_neg z, if_pos y] at hq
        rw [(hX.2.2.1 n g0).1]
        exact bx_lettersOf (d := d) (hx.2.2.1 n g0).1 hq
      · rw [if_neg z, if_neg y] at hq
        exact xs_ft hN hW (by omega) hq
/-! where it throws -/
def gj_bad : List Cond := [.declares ⟨"java/lang/RuntimeException", "<init>", "()V"⟩, .declares ⟨"java/lang/Exception", "<init>", "()V"⟩, .declares ⟨"java/lang/Throwable", "<init>", "()V"⟩, .castable "java/util/NoSuchElementException" "java/util/NoSuchElementException"]
def gj_T (E : bw_E) (U : State) : Prop := vx_Zq Bundle.tN "UNASSIGNED_STACK" Bundle.steD (bw_A E) U U.heap ∧ vx_Zq Bundle.tN "SUPPRESSED_SENTINEL" Bundle.listD (bw_A E) U U.heap ∧ ∀ z ∈ gj_bad, va_Nw z U
theorem gj_bad_warm {s U : State} (hW : s.WarmedH U.vm) : ∀ z ∈ gj_bad, va_Nw z s → va_Nw z U := by
  intro z hz h
  rcases List.mem_cons.mp hz with rfl | hz
  · exact va_Nw.warmD hW h
  rcases List.mem_cons.mp hz with rfl | hz
  · exact va_Nw.warmD hW h
  rcases List.mem_cons.mp hz with rfl | hz
  · exact va_Nw.warmD hW h
  rcases List.mem_cons.mp hz with rfl | hz
  · exact va_Nw.warmC hW h
  cases hz
theorem gj_T.go {E : bw_E} {s U : State} (h : gj_T E s) (hq : ∀ a : Nat, a < s.heap.size → ¬ bw_A E a → U.heap[a]? = s.heap[a]?) (hW : s.WarmedH U.vm) : gj_T E U :=
  ⟨(h.1.moved hW.alike).kept hq, (h.2.1.moved hW.alike).kept hq, fun z hz => gj_bad_warm hW z hz (h.2.2 z hz)⟩
theorem gj_bad_on : ∀ z ∈ gj_bad, z.onTables = true := by decide
theorem gj_T.calling {E : bw_E} {U : State} (h : gj_T E U) (g : JFrame) (mk : MethodId) (a : Array Value) : gj_T E (U.calling g mk a) :=
  ⟨vx_Zq.moved (u := U) (U := U.calling g mk a) (Vm.Alike.refl U.vm) h.1, vx_Zq.moved (u := U) (U := U.calling g mk a) (Vm.Alike.refl U.vm) h.2.1, fun z hz => va_Nw.same (u := U) (U := U.calling g mk a) (gj_bad_on z hz) rfl (h.2.2 z hz)⟩
abbrev gj_nse : String := "java/util/NoSuchElementException"
abbrev gj_chain : List String := ["java/lang/RuntimeException", "java/lang/Exception"]
theorem gj_in0 : ∀ w ∈ (vx_at0 RX11 186 gj_nse gj_chain).filter goodWord, w ∈ lw_tbl := by decide +kernel
theorem gj_in1 : ∀ w ∈ (vx_at0 RX11 186 gj_nse gj_chain).filter (fun w => !goodWord w), w ∈ gj_bad := by decide +kernel
theorem gj_in2 : ∀ w ∈ Cond.classLink RX11 184 gj_nse :: Cond.initialized gj_nse :: vx_at0 RX11 186 gj_nse gj_chain, vx_ot w = true := by decide +kernel
def gj_RT : Room := { frames := 20, cells := 1, slots := 6, locals := 800 }
def gj_PT (E : bw_E) (A : List Value) (w : bw_W) : Array Value → State → Prop := fun a U => bw_P E A w a U ∧ gj_T E U
theorem gj_PT_blind (E : bw_E) (A : List Value) (w : bw_W) : FrameBlind (gj_PT E A w) := by
  intro a U g mk h
  exact ⟨bw_blind E A w a U g mk h.1, h.2.calling g mk a⟩
def gj_XC (E : bw_E) (w : bw_W) : String → State → State → Prop := fun C st t => C = gj_nse ∧ va_P (E.2.1, E.2.2.1) bw_cls (bw_ws E w) t.heap ∧ va_F (bw_A E) st t
def gj_no : Array Value → State → Outcome → State → Prop := fun _ _ _ _ => False
def gj_X1 (E : bw_E) : Launch → State → Array Value → Code → Prop := fun l s _ c => l.stackTraces = false ∧ (∀ x ∈ c.exceptionTable.toList, False) ∧ gj_T E s
def gj_Z1 (E : bw_E) (w : bw_W) : List Frame → Array Value → State → State → Prop := fun below args s => vx_MQ below gj_no (gj_XC E w) args s 1 6 (bw_A E)
theorem gj_noun17 {E : bw_E} {w : bw_W} {L : List (Option Value)} : gj_G E gj_RT mX11_noun (bw_A E) (gj_X1 E) (gj_Z1 E w) 17 L [] w 0 0 := by
  intro p l e s m args below meth c H locs ls hC hX hP hS hL
  have ht := hC.1.2.2.2.2.2.1
  have hat : ∀ z ∈ vx_at0 RX11 186 gj_nse gj_chain, z.before args s = true := vx_hat (fun z hz => ht _ (List.mem_filter.mpr ⟨gj_in0 z hz, (List.mem_filter.mp hz).2⟩)) gj_in1 (fun z hz => va_Nw.use (gj_bad_on z hz) (hX.2.2.2.2 z hz))
  refine vx_throw0 (cc := cX11_noun) hC.1.1 hC.1.2.1 hX.1 (own := RX11) (cls := gj_nse) (names := gj_chain) (ik := 184) (ic := 186) (A := bw_A E) hC.1.2.2.2.2.1 (by decide) (by decide) (ht _ (bw_mem5 131 (by decide +kernel) rfl)) (ht _ (bw_mem1 22 (by decide +kernel) rfl)) hat gj_in2 hX.2.2.1 hX.2.2.2.1 hS (hL.1.trans hC.1.2.2.1.symm) dX11_noun_17 dX11_noun_20 dX11_noun_21 dX11_noun_24 (fun x hx => absurd (hX.2.1 x hx) id) (by decide) (Nat.le_of_ble_eq_true rfl) (by decide) (by decide) hC.1.2.2.2.2.2.2.1 (fun t _ hsz hsm => ⟨rfl, hP.kept (fun k x hx => hsm x.1 ((hP k x hx).lt)), Nat.le_trans hS.1 hsz, fun q h1 h2 => (hsm q (Nat.lt_of_lt_of_le h1 hS.1)).trans (hS.2.1 q h1 h2)⟩) hS.2.2 (by decide) (by decide)
theorem cx_noun {E : bw_E} {w : bw_W} {a0 a1 : Int32} (hk : ¬ bx_nok w a0 a1) (l : Launch) (hl : l.stackTraces = false) : vx_Met l yX11_noun (bw_wd mX11_noun) gj_RT (gj_PT E [.ref 0, .int a0, .int a1] w) gj_no (gj_XC E w) 1 6 (bw_A E) := by
  have key : gj_G E gj_RT mX11_noun (bw_A E) (gj_X1 E) (gj_Z1 E w) 0 (bw_en [.ref 0, .int a0, .int a1] 3) [] w 0 0 := by
    refine gj_aload_n (i := 0) dX11_noun_0 rfl rfl ?_
    refine gj_iload_n (i := 1) dX11_noun_1 rfl rfl ?_
    refine gj_callV (d := 0) (As := [.int a0]) (st := []) (Q' := bw_qb (fun v w1 => decide ((¬ (a0 < 0)) ∧ (¬ ((gw_i w 18 0) ≤ a0))) = v ∧ w = w1)) cv_BentWords_180 rfl rfl (fs_X11_hasNoun (d := 0) ⟨rfl, rfl⟩) rfl rfl (Nat.le_of_ble_eq_true rfl) ⟨⟨by decide, by decide⟩, by decide, by decide⟩ dX11_noun_2 (fun r w1 hv => ?_)
    obtain ⟨b, rfl, rfl, rfl⟩ := hv
    refine gj_if_eq (tgt := 17) dX11_noun_5 (by decide) (fun _ => gj_noun17) (fun c => ?_)
    have h0 : (¬ (a0 < 0)) ∧ (¬ ((gw_i w 18 0) ≤ a0)) := by
      cases hb : decide ((¬ (a0 < 0)) ∧ (¬ ((gw_i w 18 0) ≤ a0))) with
      | true => exact of_decide_eq_true hb
      | false => rw [hb] at c; exact absurd rfl c
    refine gj_iload_n (i := 2) dX11_noun_8 rfl rfl ?_
    refine gj_if_lt (tgt := 17) dX11_noun_9 (by decide) (fun _ => gj_noun17) (fun c1 => ?_)
    refine gj_iload_n (i := 2) dX11_noun_12 rfl rfl ?_
    refine gj_iconst (v := 2) dX11_noun_13 (by decide) ?_
    exact gj_icmp_le (tgt := 25) dX11_noun_14 (by decide) (fun c2 => absurd ⟨h0, c1, c2⟩ hk) (fun _ => gj_noun17)
  refine vx_ofW (cc := cX11_noun) (maxL := 3) (ret := some .int) rfl rfl ?_
  intro p e s m args below meth c s₁ B hml htab hv
  obtain ⟨⟨rfl, hP, hK, hI, hO⟩, hT⟩ := hv
  have hts := atoms_spec (ws := bw_wd mX11_noun) B.pre
  rw [lg_entry_eq]
  exact key p l e s m _ below meth c s.heap [] _ ⟨⟨B.exec, B.bytes, hml, B.returns, findClass_of_methodNamed B.named, fun w hw => hts w (List.mem_cons_of_mem _ hw), B.notSynchronized, hK, hI, hO⟩, fun q h => h, fun q _ h => h⟩ ⟨hl, htab, hT⟩ hP va_S.rf (bw_lr_en E [.ref 0, .int a0, .int a1] (Nat.le_of_ble_eq_true rfl))
