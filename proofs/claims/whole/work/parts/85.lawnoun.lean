/-! the law's own noun: it catches what the class's noun throws -/
def RL : String := "BentWordsLaw"
abbrev cL_noun : ByteArray := method_3_code
def yL_noun : MethodName := ⟨RL, "noun", "(LBentWords;II[J)I"⟩
abbrev mL_noun : bw_M := (yL_noun, cL_noun, 5, (some .int))
theorem dL_noun_0 : decode cL_noun 0 = .ok (.aload_n 3, 1) := by decide +kernel
theorem dL_noun_1 : decode cL_noun 1 = .ok (.iconst 0, 1) := by decide +kernel
theorem dL_noun_2 : decode cL_noun 2 = .ok (.aload_n 0, 1) := by decide +kernel
theorem dL_noun_3 : decode cL_noun 3 = .ok (.iload_n 1, 1) := by decide +kernel
theorem dL_noun_4 : decode cL_noun 4 = .ok (.iload_n 2, 1) := by decide +kernel
theorem dL_noun_5 : decode cL_noun 5 = .ok (.invokevirtual 7, 3) := by decide +kernel
theorem dL_noun_8 : decode cL_noun 8 = .ok (.i2l, 1) := by decide +kernel
theorem dL_noun_9 : decode cL_noun 9 = .ok (.lastore, 1) := by decide +kernel
theorem dL_noun_10 : decode cL_noun 10 = .ok (.goto 7, 3) := by decide +kernel
theorem dL_noun_13 : decode cL_noun 13 = .ok (.astore 4, 2) := by decide +kernel
theorem dL_noun_15 : decode cL_noun 15 = .ok (.iconst 1, 1) := by decide +kernel
theorem dL_noun_16 : decode cL_noun 16 = .ok (.ireturn, 1) := by decide +kernel
theorem dL_noun_17 : decode cL_noun 17 = .ok (.iconst 0, 1) := by decide +kernel
theorem dL_noun_18 : decode cL_noun 18 = .ok (.ireturn, 1) := by decide +kernel
theorem cv_Law_7 : bw_cv "BentWordsLaw" 7 2 mX11_noun := ⟨bw_mem5 127 (by decide +kernel) rfl, bw_mem5 128 (by decide +kernel) rfl, bw_mem5 129 (by decide +kernel) rfl, bw_mem1 1 (by decide +kernel) rfl, bw_mem5 130 (by decide +kernel) rfl, ⟨by decide, by decide, by decide +kernel⟩, by decide⟩
def gj_RN : Room := { frames := 40, cells := 1, slots := 6, locals := 1600 }
def gj_wdN : List Cond := .codeWith yL_noun cL_noun 5 (some .int) [(0, 10, 13, 13)] :: bw_tbl
def gj_X2 (E : bw_E) : Launch → State → Array Value → Code → Prop := fun l s _ c => l.stackTraces = false ∧ c.exceptionTable.toList = tableOf [(0, 10, 13, 13)] ∧ gj_T E s
def gj_Z2 (E : bw_E) (Q : Option Value → bw_W → Prop) : List Frame → Array Value → State → State → Prop := fun below args s => MQ below (bw_Q E Q) args s 1 6 (bw_A E)
theorem gj_iret2 {E : bw_E} {R : Room} {M : bw_M} {X : Launch → State → Array Value → Code → Prop} {Q : Option Value → bw_W → Prop} {pc : Nat} {L : List (Option Value)} {w : bw_W} {n0 k0 : Nat} {ty : FieldType} {v : Int32} (h1 : n0 ≤ 1) (h2 : k0 ≤ 6) (hd : decode M.2.1 pc = .ok (.ireturn, 1)) (hr : M.2.2.2 = some ty) (hn : narrow ty (.int v) = .int v) (hq : Q (some (.int v)) w) : gj_G E R M (bw_A E) X (gj_Z2 E Q) pc L [.int v] w n0 k0 := by
  intro p l e s m args below meth c H locs ls hC hX hP hS hL
  refine W.widen (k := 1) (n := 6) h1 h2 ?_
  exact W.zret hC.1.1 hC.1.2.1 (hC.1.2.2.2.1.trans hr) hn (fun t ht hW => ⟨⟨some (.int v), w, rfl, hq, by rw [ht]; exact hP⟩, hS.F ht⟩) hS.2.2 hd hC.1.2.2.2.2.2.2.1
theorem gj_ofWH {l : Launch} {y : MethodName} {ws ws' : List Cond} {rm : Room} {Pc : Array Value → State → Prop} {Qc : Array Value → State → Outcome → State → Prop} {mc ms : Nat} {free : Addr → Prop} {cc : ByteArray} {maxL : Nat} {ret : Option FieldType} {hh : List (Nat × Nat × Nat × Nat)}
    (hy : plainName y.cls = true) (hw : ws = Cond.codeWith y cc maxL ret hh :: ws')
    (body : ∀ p e s m args below meth c s₁, BodyLoose p l y (headSpec ws rm) cc maxL ret e s m args below meth c s₁ → c.maxLocals = maxL → Pc args s →
      W p l e (headSpec ws rm).room s m args below meth c s.heap [] 0 0 (MQ below Qc args s mc ms free) (entryFrame m args maxL)) : Met l y ws rm Pc Qc mc ms free := by
  refine MetFree.of_bodyS (code := cc) (maxLocals := maxL) (ret := ret) hy ?_ ?_
  · intro args s m h hn
    obtain ⟨m9, meth, c, hn9, h1, h2, h3, h4, -, h5, h6, -⟩ := Cond.codeWith_spec (atoms_spec (ws := ws) h _ (by rw [hw]; exact List.mem_cons_self))
    cases hn.symm.trans hn9
    exact ⟨meth, c, h1, h2, h3, h4, h5, h6⟩
  · intro p e s m args below meth c s₁ B hml hP _
    have hh0 : s₁.heap = s.heap := by rw [B.state]; rfl
    obtain ⟨t, a1, o, b1, b2, b3⟩ := body p e s m args below meth c s₁ B hml hP s₁ hh0 (Stand.of_body B)
    exact ⟨t, o, a1, b1, b2, b3⟩
theorem gj_enter2 {E : bw_E} {w : bw_W} {Q : Option Value → bw_W → Prop} {As : List Value} (hn : (lg_sl (As.map (bw_v E))).length ≤ 5) (l : Launch) (hl : l.stackTraces = false) (key : gj_G E gj_RN mL_noun (bw_A E) (gj_X2 E) (gj_Z2 E Q) 0 (bw_en As 5) [] w 0 0) : Met l yL_noun gj_wdN gj_RN (gj_PT E As w) (bw_Q E Q) 1 6 (bw_A E) := by
  refine gj_ofWH (cc := cL_noun) (maxL := 5) (ret := some .int) (hh := [(0, 10, 13, 13)]) rfl rfl ?_
  intro p e s m args below meth c s₁ B hml hv
  obtain ⟨⟨rfl, hP, hK, hI, hO⟩, hT⟩ := hv
  have hts := atoms_spec (ws := gj_wdN) B.pre
  rw [lg_entry_eq]
  exact key p l e s m _ below meth c s.heap [] _ ⟨⟨B.exec, B.bytes, hml, B.returns, findClass_of_methodNamed B.named, fun w hw => hts w (List.mem_cons_of_mem _ hw), B.notSynchronized, hK, hI, hO⟩, fun q h => h, fun q _ h => h⟩ ⟨hl, vx_table (x := yL_noun) B (hts _ List.mem_cons_self), hT⟩ hP va_S.rf (bw_lr_en E As hn)
theorem zl_noun1 {E : bw_E} {w : bw_W} {Q : Option Value → bw_W → Prop} {a0 a1 : Int32} (hr : bw_ri E 14 mX11_noun [.ref 0, .int a0, .int a1] w (fun r w1 => Q (some (.int 0)) (sw_l w1 77 0 r.toInt64))) (l : Launch) (hl : l.stackTraces = false) : Met l yL_noun gj_wdN gj_RN (gj_PT E [.ref 0, .int a0, .int a1, .ref 77] w) (bw_Q E Q) 1 6 (bw_A E) := by
  refine gj_enter2 (Nat.le_of_ble_eq_true rfl) l hl ?_
  refine gj_aload_n (i := 3) dL_noun_0 rfl rfl ?_
  refine gj_iconst (v := 0) dL_noun_1 (by decide) ?_
  refine gj_aload_n (i := 0) dL_noun_2 rfl rfl ?_
  refine gj_iload_n (i := 1) dL_noun_3 rfl rfl ?_
  refine gj_iload_n (i := 2) dL_noun_4 rfl rfl ?_
  refine gj_callV (d := 14) (As := [.int a0, .int a1]) (st := [.int 0, .ref 77]) cv_Law_7 rfl rfl hr rfl rfl (Nat.le_of_ble_eq_true rfl) ⟨⟨by decide, by decide⟩, by decide, by decide⟩ dL_noun_5 (fun o w1 hv => ?_)
  obtain ⟨r, rfl, hq⟩ := hv
  refine gj_i2l dL_noun_8 ?_
  refine gj_lastore (n := 1) (x := 0) rfl (bm_in (k := 0) (by decide) (by decide)) dL_noun_9 ?_
  refine gj_goto (tgt := 17) dL_noun_10 (by decide) ?_
  refine gj_iconst (v := 0) dL_noun_17 (by decide) ?_
  exact gj_iret2 (by decide) (by decide) dL_noun_18 rfl rfl hq
theorem zl_noun2 {E : bw_E} {w : bw_W} {Q : Option Value → bw_W → Prop} {a0 a1 : Int32} (hk : ¬ bx_nok w a0 a1) (hq : Q (some (.int 1)) w) (l : Launch) (hl : l.stackTraces = false) : Met l yL_noun gj_wdN gj_RN (gj_PT E [.ref 0, .int a0, .int a1, .ref 77] w) (bw_Q E Q) 1 6 (bw_A E) := by
  refine gj_enter2 (Nat.le_of_ble_eq_true rfl) l hl ?_
  refine gj_aload_n (i := 3) dL_noun_0 rfl rfl ?_
  refine gj_iconst (v := 0) dL_noun_1 (by decide) ?_
  refine gj_aload_n (i := 0) dL_noun_2 rfl rfl ?_
  refine gj_iload_n (i := 1) dL_noun_3 rfl rfl ?_
  refine gj_iload_n (i := 2) dL_noun_4 rfl rfl ?_
  intro p l e s m args below meth c H locs ls hC hX hP hS hL
  obtain ⟨c1, c2, c3, c4, c5, c6, c7⟩ := cv_Law_7
  have ht := hC.1.2.2.2.2.2.1
  have hrv := gj_recv (C := RX11) (b := 0) (ci := 11) (nf := 19) hC.1.2.2.2.2.2.2.2.1 hP rfl rfl
  have hrun := vx_runV (p := p) (l := l) (e := e) (below := below) (meth := meth) (R := gj_RN) (As := ([.int a0, .int a1] : List Value).map (bw_v E)) (rest := ([.int 0, .ref 77] : List Value).map (bw_v E)) (g := F0 m 5 ls (([.int a1, .int a0, .ref 0, .int 0, .ref 77] : List Value).map (bw_v E))) (cells := 0) (slots := 0) (locs := locs) (S := ⟨hC.1.1, hC.1.2.1, hC.1.2.2.1, hC.1.2.2.2.2.1, ht⟩) (cx_noun (E := E) hk l hX.1) (C := RX11) (index := 7) (n := 2) (bytes := cX11_noun) (maxL := 3) (ret := some .int) (b := E.1 0) (H := H)
    ⟨callB_of 2 ht (bw_gw c5) rfl rfl rfl (ht _ c4) (ht _ c1) c6 ⟨by decide, by decide⟩, ht _ c2, ht _ c3⟩
    ⟨gj_PT_blind E _ w, hrv, fun U hU hW => ⟨gj_pre [.ref 0, .int a0, .int a1] hC hP hS U hU hW, hX.2.2.go (fun a h1 h2 => by rw [hU]; exact hS.2.1 a h1 (hC.2.2 a h1 h2)) hW⟩⟩ rfl rfl hL.1 rfl (by rw [bk_cat]; exact Nat.le_of_ble_eq_true rfl) dL_noun_5 ⟨by decide, by decide⟩
  intro T hT X9
  rcases hrun T hT X9 with ⟨v, st₀, t, T', L', h0, X', hL', e1, e2, hno, go⟩ | ⟨q, st₀, t, T', L', E', ce, h0, X', hL', e1, e2, ⟨hE', hP', hF⟩, hce, hcv, hcl, go⟩
  · exact absurd hno id
  · subst hE'
    have hS' : va_S (bw_A E) s.heap T'.heap (locs ++ L') := gj_S hC.2.1 hS h0 hL' e1 hF
    have K : vx_W p l e gj_RN s m args below meth c T'.heap (locs ++ L') (0 + 1) (0 + 6) (gj_Z2 E Q below args s) (F0 m 5 ls (([.int 0, .ref 77] : List Value).map (bw_v E))) q := by
      refine vx_catch (own := RL) (name := gj_nse) (E := gj_nse) hC.1.2.2.2.2.1 [] ⟨0, 10, 13, 13⟩ [] (by rw [hX.2.1]; rfl) (fun z hz => by cases hz) (by decide) (by decide) (ht _ (bw_mem5 126 (by decide +kernel) rfl)) (va_Nw.use rfl (hX.2.2.2.2 _ (by decide))) (by rw [e1]; exact hce) hcv hcl ?_
      refine lv_astore (cc := cL_noun) hC.1.1 hC.1.2.1 dL_noun_13 hL.has (by decide) rfl (fun ls2 h2 => ?_)
      refine lv_iconst (cc := cL_noun) (v := 1) hC.1.1 hC.1.2.1 dL_noun_15 (by decide) ?_
      exact W.zret hC.1.1 hC.1.2.1 hC.1.2.2.2.1 rfl (fun t9 ht9 hW => ⟨⟨some (.int 1), w, rfl, hq, by rw [ht9, e1]; exact hP'⟩, hS'.F ht9⟩) hS'.2.2 dL_noun_16 hC.1.2.2.2.2.2.2.1
    obtain ⟨t2, b1, b2⟩ := K T' rfl X'
    exact ⟨t2, go.trans b1, b2⟩
