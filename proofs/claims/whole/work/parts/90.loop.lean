/-! the law's loop -/
theorem zl_cond {L j : Nat} (hL : L ≤ 3072) (hj : j ≤ 4000) : (nI L - 6 < nI j) ↔ L < j + 6 := by
  have h1 : (nI L - 6).toInt = (L : Int) - 6 := by
    by_cases h : 6 ≤ L
    · rw [nl_6, pk_sub h, nI_toInt (by omega)]
      omega
    · rcases (show L = 0 ∨ L = 1 ∨ L = 2 ∨ L = 3 ∨ L = 4 ∨ L = 5 by omega) with rfl | rfl | rfl | rfl | rfl | rfl <;> decide
  rw [fa_lt, h1, nI_toInt (by omega)]
  omega
theorem zl_and63 (a : Int32) : ∃ c : Nat, c < 64 ∧ a &&& 63 = nI c := by
  have h : nI a.toBitVec.toNat = a := by
    apply Int32.toBitVec_inj.1
    show BitVec.ofNat 32 a.toBitVec.toNat = a.toBitVec
    simp
  refine ⟨a.toBitVec.toNat % 2 ^ 6, Nat.mod_lt _ (by decide), ?_⟩
  have e := fa_mask a.toBitVec.toNat 6
  rw [h] at e
  exact e
section ZLL
variable {E : bw_E} {b L : Nat} {xs : Nat → Int32}
theorem zl_head {r n0 k0 : Nat} {w : bw_W} (kt : L < 6 * r + 6 → zl_G E b L xs 1598 (zl_L (nI (6 * r))) [] w n0 k0) (kf : 6 * r + 6 ≤ L → zl_G E b L xs 33 (zl_L (nI (6 * r))) [] w n0 k0) (hL : L ≤ 3072) (hr : r ≤ 513) : zl_G E b L xs 23 (zl_L (nI (6 * r))) [] w n0 k0 := by
  refine gj_iload (i := 4) dL_law_23 rfl ?_
  refine gj_aload_n (i := 0) dL_law_25 rfl rfl ?_
  refine zl_alen dL_law_26 ?_
  refine gj_bipush (v := 6) dL_law_27 (by decide) ?_
  refine gj_isub dL_law_29 ?_
  refine gj_icmp_gt (tgt := 1598) dL_law_30 (by decide) (fun c => ?_) (fun c => ?_)
  · exact kt ((zl_cond hL (by omega)).mp c)
  · exact kf (by
      have h := mt (zl_cond (j := 6 * r) hL (by omega)).mpr c
      omega)
theorem zl_loop (hL : L ≤ 3072) : ∀ (N r : Nat) (w : bw_W), r + N = 513 → bv_J (40 * r) w → zl_G E b L xs 23 (zl_L (nI (6 * r))) [] w (148 + r) (13538 + 6 * r) := by
  intro N
  induction N with
  | zero =>
    intro r w hr hJ
    exact zl_head (fun _ => zl_end (by omega) (by omega)) (fun h => absurd h (by omega)) hL (by omega)
  | succ N ih =>
    intro r w hr hJ
    refine zl_head (fun _ => zl_end (by omega) (by omega)) (fun hj => ?_) hL (by omega)
    have next : ∀ w2, bv_J (40 * r + 40) w2 → zl_G E b L xs 1592 (zl_L (nI (6 * r))) [] w2 (148 + r + 1) (13538 + 6 * r + 6) := by
      intro w2 h2
      have hv : nI (6 * r) + Int32.ofInt 6 = nI (6 * (r + 1)) := by
        show nI (6 * r) + nI 6 = nI (6 * (r + 1))
        rw [nI_add, show 6 * r + 6 = 6 * (r + 1) by omega]
      refine gj_iinc (x := nI (6 * r)) (v := nI (6 * (r + 1))) (L' := zl_L (nI (6 * (r + 1)))) dL_law_1592 rfl hv (by decide) rfl ?_
      refine gj_goto (tgt := 23) dL_law_1595 (by decide) ?_
      have g := ih (r + 1) w2 (by omega) (by rw [show 40 * (r + 1) = 40 * r + 40 by omega]; exact h2)
      rw [show 148 + (r + 1) = 148 + r + 1 by omega, show 13538 + 6 * (r + 1) = 13538 + 6 * r + 6 by omega] at g
      exact g
    refine gj_aload_n (i := 0) dL_law_33 rfl rfl ?_
    refine gj_iload (i := 4) dL_law_34 rfl ?_
    refine zl_iaload dL_law_36 (bm_in (k := 6 * r) (by omega) (by omega)) ?_
    refine gj_bipush (v := 63) dL_law_37 (by decide) ?_
    refine gj_iand dL_law_39 ?_
    obtain ⟨c, hc, e⟩ := zl_and63 (xs (nI (6 * r)).toNatClampNeg)
    rw [e]
    clear e
    by_cases h36 : 36 < c
    · exact gj_tableOut (tgt := 1592) dL_law_40 (Or.inr (by rw [nI_toInt (by omega)]; omega)) (by decide) (gj_widen (Nat.le_add_right _ _) (Nat.le_add_right _ _) (next _ (zl_up hJ)))
    · rcases (show c = 0 ∨ c = 1 ∨ c = 2 ∨ c = 3 ∨ c = 4 ∨ c = 5 ∨ c = 6 ∨ c = 7 ∨ c = 8 ∨ c = 9 ∨ c = 10 ∨ c = 11 ∨ c = 12 ∨ c = 13 ∨ c = 14 ∨ c = 15 ∨ c = 16 ∨ c = 17 ∨ c = 18 ∨ c = 19 ∨ c = 20 ∨ c = 21 ∨ c = 22 ∨ c = 23 ∨ c = 24 ∨ c = 25 ∨ c = 26 ∨ c = 27 ∨ c = 28 ∨ c = 29 ∨ c = 30 ∨ c = 31 ∨ c = 32 ∨ c = 33 ∨ c = 34 ∨ c = 35 ∨ c = 36 by omega) with rfl | rfl | rfl | rfl | rfl | rfl | rfl | rfl | rfl | rfl | rfl | rfl | rfl | rfl | rfl | rfl | rfl | rfl | rfl | rfl | rfl | rfl | rfl | rfl | rfl | rfl | rfl | rfl | rfl | rfl | rfl | rfl | rfl | rfl | rfl | rfl | rfl
      · exact gj_tableIn (off := 164) (tgt := 204) dL_law_40 (by decide) (by decide) (by decide) (by decide) (zl_c0 hL hj (by omega) hJ (by omega) (by omega) next)
      · exact gj_tableIn (off := 237) (tgt := 277) dL_law_40 (by decide) (by decide) (by decide) (by decide) (zl_c1 hL hj (by omega) hJ (by omega) (by omega) next)
      · exact gj_tableIn (off := 262) (tgt := 302) dL_law_40 (by decide) (by decide) (by decide) (by decide) (zl_c2 hL hj (by omega) hJ (by omega) (by omega) next)
      · exact gj_tableIn (off := 287) (tgt := 327) dL_law_40 (by decide) (by decide) (by decide) (by decide) (zl_c3 hL hj (by omega) hJ (by omega) (by omega) next)
      · exact gj_tableIn (off := 312) (tgt := 352) dL_law_40 (by decide) (by decide) (by decide) (by decide) (zl_c4 hL hj (by omega) hJ (by omega) (by omega) next)
      · exact gj_tableIn (off := 337) (tgt := 377) dL_law_40 (by decide) (by decide) (by decide) (by decide) (zl_c5 hL hj (by omega) hJ (by omega) (by omega) next)
      · exact gj_tableIn (off := 405) (tgt := 445) dL_law_40 (by decide) (by decide) (by decide) (by decide) (zl_c6 hL hj (by omega) hJ (by omega) (by omega) next)
      · exact gj_tableIn (off := 466) (tgt := 506) dL_law_40 (by decide) (by decide) (by decide) (by decide) (zl_c7 hL hj (by omega) hJ (by omega) (by omega) next)
      · exact gj_tableIn (off := 515) (tgt := 555) dL_law_40 (by decide) (by decide) (by decide) (by decide) (zl_c8 hL hj (by omega) hJ (by omega) (by omega) next)
      · exact gj_tableIn (off := 604) (tgt := 644) dL_law_40 (by decide) (by decide) (by decide) (by decide) (zl_c9 hL hj (by omega) hJ (by omega) (by omega) next)
      · exact gj_tableIn (off := 641) (tgt := 681) dL_law_40 (by decide) (by decide) (by decide) (by decide) (zl_c10 hL hj (by omega) hJ (by omega) (by omega) next)
      · exact gj_tableIn (off := 678) (tgt := 718) dL_law_40 (by decide) (by decide) (by decide) (by decide) (zl_c11 hL hj (by omega) hJ (by omega) (by omega) next)
      · exact gj_tableIn (off := 715) (tgt := 755) dL_law_40 (by decide) (by decide) (by decide) (by decide) (zl_c12 hL hj (by omega) hJ (by omega) (by omega) next)
      · exact gj_tableIn (off := 752) (tgt := 792) dL_law_40 (by decide) (by decide) (by decide) (by decide) (zl_c13 hL hj (by omega) hJ (by omega) (by omega) next)
      · exact gj_tableIn (off := 801) (tgt := 841) dL_law_40 (by decide) (by decide) (by decide) (by decide) (zl_c14 hL hj (by omega) hJ (by omega) (by omega) next)
      · exact gj_tableIn (off := 826) (tgt := 866) dL_law_40 (by decide) (by decide) (by decide) (by decide) (zl_c15 hL hj (by omega) hJ (by omega) (by omega) next)
      · exact gj_tableIn (off := 863) (tgt := 903) dL_law_40 (by decide) (by decide) (by decide) (by decide) (zl_c16 hL hj (by omega) hJ (by omega) (by omega) next)
      · exact gj_tableIn (off := 888) (tgt := 928) dL_law_40 (by decide) (by decide) (by decide) (by decide) (zl_c17 hL hj (by omega) hJ (by omega) (by omega) next)
      · exact gj_tableIn (off := 913) (tgt := 953) dL_law_40 (by decide) (by decide) (by decide) (by decide) (zl_c18 hL hj (by omega) hJ (by omega) (by omega) next)
      · exact gj_tableIn (off := 938) (tgt := 978) dL_law_40 (by decide) (by decide) (by decide) (by decide) (zl_c19 hL hj (by omega) hJ (by omega) (by omega) next)
      · exact gj_tableIn (off := 975) (tgt := 1015) dL_law_40 (by decide) (by decide) (by decide) (by decide) (zl_c20 hL hj (by omega) hJ (by omega) (by omega) next)
      · exact gj_tableIn (off := 1024) (tgt := 1064) dL_law_40 (by decide) (by decide) (by decide) (by decide) (zl_c21 hL hj (by omega) hJ (by omega) (by omega) next)
      · exact gj_tableIn (off := 1049) (tgt := 1089) dL_law_40 (by decide) (by decide) (by decide) (by decide) (zl_c22 hL hj (by omega) hJ (by omega) (by omega) next)
      · exact gj_tableIn (off := 1074) (tgt := 1114) dL_law_40 (by decide) (by decide) (by decide) (by decide) (zl_c23 hL hj (by omega) hJ (by omega) (by omega) next)
      · exact gj_tableIn (off := 1123) (tgt := 1163) dL_law_40 (by decide) (by decide) (by decide) (by decide) (zl_c24 hL hj (by omega) hJ (by omega) (by omega) next)
      · exact gj_tableIn (off := 1172) (tgt := 1212) dL_law_40 (by decide) (by decide) (by decide) (by decide) (zl_c25 hL hj (by omega) hJ (by omega) (by omega) next)
      · exact gj_tableIn (off := 1241) (tgt := 1281) dL_law_40 (by decide) (by decide) (by decide) (by decide) (zl_c26 hL hj (by omega) hJ (by omega) (by omega) next)
      · exact gj_tableIn (off := 1266) (tgt := 1306) dL_law_40 (by decide) (by decide) (by decide) (by decide) (zl_c27 hL hj (by omega) hJ (by omega) (by omega) next)
      · exact gj_tableIn (off := 1279) (tgt := 1319) dL_law_40 (by decide) (by decide) (by decide) (by decide) (zl_c28 hL hj (by omega) hJ (by omega) (by omega) next)
      · exact gj_tableIn (off := 1316) (tgt := 1356) dL_law_40 (by decide) (by decide) (by decide) (by decide) (zl_c29 hL hj (by omega) hJ (by omega) (by omega) next)
      · exact gj_tableIn (off := 1365) (tgt := 1405) dL_law_40 (by decide) (by decide) (by decide) (by decide) (zl_c30 hL hj (by omega) hJ (by omega) (by omega) next)
      · exact gj_tableIn (off := 1414) (tgt := 1454) dL_law_40 (by decide) (by decide) (by decide) (by decide) (zl_c31 hL hj (by omega) hJ (by omega) (by omega) next)
      · exact gj_tableIn (off := 1451) (tgt := 1491) dL_law_40 (by decide) (by decide) (by decide) (by decide) (zl_c32 hL hj (by omega) hJ (by omega) (by omega) next)
      · exact gj_tableIn (off := 1476) (tgt := 1516) dL_law_40 (by decide) (by decide) (by decide) (by decide) (zl_c33 hL hj (by omega) hJ (by omega) (by omega) next)
      · exact gj_tableIn (off := 1501) (tgt := 1541) dL_law_40 (by decide) (by decide) (by decide) (by decide) (zl_c34 hL hj (by omega) hJ (by omega) (by omega) next)
      · exact gj_tableIn (off := 1514) (tgt := 1554) dL_law_40 (by decide) (by decide) (by decide) (by decide) (zl_c35 hL hj (by omega) hJ (by omega) (by omega) next)
      · exact gj_tableIn (off := 1527) (tgt := 1567) dL_law_40 (by decide) (by decide) (by decide) (by decide) (zl_c36 hL hj (by omega) hJ (by omega) (by omega) next)
end ZLL
/-! the law's constructors -/
section BJ
variable {p : Program} {l : Launch} {e : Env} {R : Room} {s : State} {m : MethodId} {args : Array Value} {below : List Frame} {meth : Method} {c : Code} {H : Heap} {locs : List Loc} {n0 k0 : Nat} {Q : State → Prop} {cc : ByteArray} {own : String} {pc : Nat} {ls : Array Slot} {rest : List Value} {E : bw_E} {cs : List va_E}
def bj_C (E : bw_E) (cc : ByteArray) (own : String) (p : Program) (s : State) (m : MethodId) (args : Array Value) (c : Code) : Prop := p.tables.exec = Jvm.exec ∧ c.code = cc ∧ s.vm.findClass own = some m.cls ∧ (∀ w ∈ bw_tbl, w.before args s = true) ∧ va_K (E.2.1, E.2.2.1) bw_cls (bw_ty E) s ∧ bk_E E ∧ bk_X s
theorem bj_new {idx ci N : Nat} {C : String} {T : u_T} {ty : Nat → FieldType} {fs : List Value} (hC : bj_C E cc own p s m args c) (hty : ∀ k, k < N → parseFieldDescriptor (T k).2.2.1 = some (ty k)) (hin : ∀ w ∈ u_ws C T N, w ∈ bw_tbl) (hw : Cond.classLink own idx C ∈ bw_tbl ∧ Cond.instantiable C N ∈ bw_tbl ∧ Cond.initialized C ∈ bw_tbl) (hcl : bw_cls[ci]? = some (C, T, N)) (hfs : ∀ j, j < N → defaultValue (ty j) = vp_V fs j) (hc : n0 + 1 ≤ R.cells) (hs : k0 + N ≤ R.slots) (hd : decode cc pc = .ok (.new idx, 3)) (hP : bk_H E cs H) (hS : va_S (bk_A E) s.heap H locs) (kk : ∀ H1, bk_H E (cs ++ [.inr (ci, fs)]) H1 → va_S (bk_A E) s.heap H1 locs → W p l e R s m args below meth c H1 locs (n0 + 1) (k0 + N) Q (F0 m (pc + 3) ls (.ref (E.1 cs.length) :: rest))) : W p l e R s m args below meth c H locs n0 k0 Q (F0 m pc ls rest) := by
  have hKn := hC.2.2.2.2.1.1 ci _ hcl
  refine W.newcK hC.1 hC.2.1 hC.2.2.1 (hC.2.2.2.1 _ hw.1) (hC.2.2.2.1 _ hw.2.1) (hC.2.2.2.1 _ hw.2.2) rfl hd hc hs hKn.2.1 rfl fun H1 kC hkC e1 z1 o1 => ?_
  have hz := bk_sz hC.2.2.2.2.2.1 hP
  have hP1 := bk_more (e0 := .inr (ci, fs)) hC.2.2.2.2.2.1 hP z1 o1 (by rw [← hz]; exact ⟨_, hcl, (u_born ty hC.2.2.2.1 hin hKn hkC e1 hty).to hfs⟩)
  have := kk H1 hP1 (bk_S hS z1 o1)
  rw [← hz] at this
  exact this
theorem bj_newl {n : Int32} {N : Nat} (hC : bj_C E cc own p s m args c) (hN : n.toNatClampNeg = N) (hn : ¬ n < 0) (hb : N ≤ 60000000) (hc : n0 + 1 ≤ R.cells) (hs : k0 + N ≤ R.slots) (hd : decode cc pc = .ok (.newarray .long, 2)) (hP : bk_H E cs H) (hS : va_S (bk_A E) s.heap H locs) (kk : ∀ H1, bk_H E (cs ++ [.inl (E.2.2.2 1, N, .inr (.inl (fun _ => 0)))]) H1 → va_S (bk_A E) s.heap H1 locs → W p l e R s m args below meth c H1 locs (n0 + 1) (k0 + N) Q (F0 m (pc + 2) ls (.ref (E.1 cs.length) :: rest))) : W p l e R s m args below meth c H locs n0 k0 Q (F0 m pc ls (.int n :: rest)) := by
  refine va_newaK (atype := .long) hC.1 hC.2.1 (hC.2.2.2.1 _ bk_al) rfl hd rfl hn hN (by show N * _ ≤ 536870912; simp only [newarray.typeOf, componentBytes]; omega) hc hs rfl fun H1 cA e1 z1 o1 hAr hNm => ?_
  have hk := (hC.2.2.2.2.1.2 1 _ rfl).2
  have hcA : cA = E.2.2.2 1 := Option.some.inj (hNm.symm.trans hk)
  subst hcA
  have hz := bk_sz hC.2.2.2.2.2.1 hP
  have hP1 := bk_more (e0 := .inl (E.2.2.2 1, N, .inr (.inl (fun _ => 0)))) hC.2.2.2.2.2.1 hP z1 o1 (by rw [← hz]; exact e1)
  have := kk H1 hP1 (bk_S hS z1 o1)
  rw [← hz] at this
  exact this
theorem bj_callI {idx j f mc1 ms1 nL : Nat} {M' : bw_M} {cs1 : List va_E} (hC : bj_C E cc own p s m args c) (hml : c.maxLocals = nL) (hc : bk_ci own idx 0 M') (hr : bk_run E f M' [.ref j] cs cs1 mc1 ms1) (hw : (rest.map fun v => v.category).sum ≤ 8) (hR : f + 1 ≤ R.frames ∧ 40 * (f + 1) ≤ R.locals) (h1 : n0 + mc1 ≤ R.cells ∧ k0 + ms1 ≤ R.slots) (hls : ls.size = nL) (hd : decode cc pc = .ok (.invokespecial idx, 3)) (hP : bk_H E cs H) (hS : va_S (bk_A E) s.heap H locs) (kk : ∀ H1 locs1, bk_H E cs1 H1 → va_S (bk_A E) s.heap H1 locs1 → W p l e R s m args below meth c H1 locs1 (n0 + mc1) (k0 + ms1) Q (F0 m (pc + 3) ls rest)) : W p l e R s m args below meth c H locs n0 k0 Q (F0 m pc ls (.ref (E.1 j) :: rest)) := by
  obtain ⟨y', b', mL', r'⟩ := M'
  obtain ⟨c1, c2, c4, c5, c6, c7, c8, c9⟩ := hc
  dsimp only at c9 c7
  subst c9
  have ht := hC.2.2.2.1
  have hrun := va_runI (p := p) (l := l) (e := e) (below := below) (meth := meth) (R := R) (As := []) (rest := rest) (g := F0 m pc ls (.ref (E.1 j) :: rest)) (cells := n0) (slots := k0) (locs := locs) (S := ⟨hC.1, hC.2.1, hml, hC.2.2.1, ht⟩) (hr l) (index := idx) (n := 0) (bytes := b') (maxL := mL') (b := E.1 j) (H := H)
    ⟨callB_of 0 ht (bw_gw (M' := (y', b', mL', none)) c5) rfl rfl rfl (ht _ c4) (ht _ c1) c6 ⟨hR.1, by show 8 + (mL' + 11) + 40 * f ≤ R.locals; have := hR.2; omega⟩, c8, ht _ c2⟩
    ⟨bk_blind E _ cs, fun U hU hW => ⟨rfl, by rw [hU]; exact hP, va_K.moved hW.alike hC.2.2.2.2.1, hC.2.2.2.2.2.1, hC.2.2.2.2.2.2.warm hW⟩⟩ rfl rfl hls rfl (by simpa [JFrame.monitorRoom] using hw) hd h1
  intro T hT X
  obtain ⟨v, st₀, t, T', L', h0, X', hL', e1, e2, ⟨⟨hv, hP'⟩, hz, hk⟩, go⟩ := hrun T hT X
  rw [h0] at hz hk
  have hv' : v = none := by
    injection hv
  subst hv'
  have hS' : va_S (bk_A E) s.heap T'.heap (locs ++ L') := by
    refine ⟨Nat.le_trans hS.1 (by rw [e1]; exact hz), fun q h1 h2 => ?_, fun q hq => ?_⟩
    · rw [e1, hk q (Nat.lt_of_lt_of_le h1 hS.1) h2]
      exact hS.2.1 q h1 h2
    · rcases List.mem_append.mp hq with h | h
      · exact hS.2.2 q h
      · exact hL' q h
  obtain ⟨t2, a1, b1⟩ := kk T'.heap (locs ++ L') (by rw [e1]; exact hP') hS' T' rfl X'
  exact ⟨t2, go t2 a1, b1⟩
end BJ
theorem hfsX11 : ∀ j, j < 19 → defaultValue (tyX11 j) = vp_V [.null, .null, .null, .null, .null, .int 0, .null, .int 0, .null, .null, .null, .null, .null, .null, .int 0, .null, .null, .null, .int 0] j := fun j hj => match j, hj with
  | 0, _ => rfl
  | 1, _ => rfl
  | 2, _ => rfl
  | 3, _ => rfl
  | 4, _ => rfl
  | 5, _ => rfl
  | 6, _ => rfl
  | 7, _ => rfl
  | 8, _ => rfl
  | 9, _ => rfl
  | 10, _ => rfl
  | 11, _ => rfl
  | 12, _ => rfl
  | 13, _ => rfl
  | 14, _ => rfl
  | 15, _ => rfl
  | 16, _ => rfl
  | 17, _ => rfl
  | 18, _ => rfl
  | n + 19, h => absurd h (by omega)
theorem hfsX12 : ∀ j, j < 52 → defaultValue (tyX12 j) = vp_V [.int 0, .null, .int 0, .int 0, .int 0, .int 0, .int 0, .int 0, .int 0, .int 0, .int 0, .long 0, .null, .null, .null, .null, .null, .null, .null, .null, .int 0, .int 0, .null, .null, .null, .int 0, .null, .null, .null, .null, .null, .null, .null, .null, .int 0, .int 0, .null, .int 0, .int 0, .int 0, .int 0, .null, .int 0, .long 0, .null, .null, .null, .int 0, .int 0, .int 0, .null, .int 0] j := fun j hj => match j, hj with
  | 0, _ => rfl
  | 1, _ => rfl
  | 2, _ => rfl
  | 3, _ => rfl
  | 4, _ => rfl
  | 5, _ => rfl
  | 6, _ => rfl
  | 7, _ => rfl
  | 8, _ => rfl
  | 9, _ => rfl
  | 10, _ => rfl
  | 11, _ => rfl
  | 12, _ => rfl
  | 13, _ => rfl
  | 14, _ => rfl
  | 15, _ => rfl
  | 16, _ => rfl
  | 17, _ => rfl
  | 18, _ => rfl
  | 19, _ => rfl
  | 20, _ => rfl
  | 21, _ => rfl
  | 22, _ => rfl
  | 23, _ => rfl
  | 24, _ => rfl
  | 25, _ => rfl
  | 26, _ => rfl
  | 27, _ => rfl
  | 28, _ => rfl
  | 29, _ => rfl
  | 30, _ => rfl
  | 31, _ => rfl
  | 32, _ => rfl
  | 33, _ => rfl
  | 34, _ => rfl
  | 35, _ => rfl
  | 36, _ => rfl
  | 37, _ => rfl
  | 38, _ => rfl
  | 39, _ => rfl
  | 40, _ => rfl
  | 41, _ => rfl
  | 42, _ => rfl
  | 43, _ => rfl
  | 44, _ => rfl
  | 45, _ => rfl
  | 46, _ => rfl
  | 47, _ => rfl
  | 48, _ => rfl
  | 49, _ => rfl
  | 50, _ => rfl
  | 51, _ => rfl
  | n + 52, h => absurd h (by omega)

theorem ci_Law_15 : bk_ci "BentWordsLaw" 15 0 mX11_init := ⟨bw_mem1 27 (by decide +kernel) rfl, bw_mem1 28 (by decide +kernel) rfl, bw_mem1 1 (by decide +kernel) rfl, bw_mem1 29 (by decide +kernel) rfl, ⟨by decide, by decide, by decide +kernel⟩, by decide, rfl, rfl⟩
theorem ci_Law_18 : bk_ci "BentWordsLaw" 18 0 mX12_init := ⟨bw_mem5 194 (by decide +kernel) rfl, bw_mem5 195 (by decide +kernel) rfl, bw_mem1 13 (by decide +kernel) rfl, bw_mem5 196 (by decide +kernel) rfl, ⟨by decide, by decide, by decide +kernel⟩, by decide, rfl, rfl⟩
theorem bj_C1len {E : bw_E} : (bv_C1 E).length = 120 := by
  unfold bv_C1
  rw [bk_nf_len (K := 1) (m := 119) rfl bkB15_len]
theorem bj_C2len {E : bw_E} : (bv_C2 E).length = 147 := by
  unfold bv_C2
  rw [bk_nf_len (K := 121) (m := 26) (by rw [List.length_append, bj_C1len]; rfl) bkM26_len]
theorem zl_lr {E : bw_E} {b : Nat} {ls : Array Slot} (hb : E.1 4000 = b) {x0 x1 x2 : Nat} (e0 : E.1 0 = x0) (e1 : E.1 50 = x1) (e2 : E.1 77 = x2) (h : lv_has ls 7 [(4, .int 0), (3, .ref x2), (2, .ref x1), (1, .ref x0), (0, .ref b)]) : bw_lr E (zl_L (nI (6 * 0))) ls 7 := by
  subst hb e0 e1 e2
  refine ⟨h.1, h.2.1, fun i v hv => ?_⟩
  match i, hv with
  | 0, hv => cases hv; exact h.2.2 (0, _) (by simp)
  | 1, hv => cases hv; exact h.2.2 (1, _) (by simp)
  | 2, hv => cases hv; exact h.2.2 (2, _) (by simp)
  | 3, hv => cases hv; exact h.2.2 (3, _) (by simp)
  | 4, hv => cases hv; exact h.2.2 (4, .int 0) (by simp)
  | 5, hv => cases hv
  | 6, hv => cases hv
  | k + 7, hv => simp at hv
theorem zl_start {E : bw_E} {str : Nat → Nat} {p : Program} {l : Launch} {e : Env} {s : State} {m : MethodId} {below : List Frame} {meth : Method} {c : Code} {H : Heap} {locs : List Loc} {ls : Array Slot} {b L : Nat} {xs : Nat → Int32} (hl : l.stackTraces = false) (hL : L ≤ 3072) (C0 : lw_At p s m meth c b L xs) (hE : bk_E E) (hE0 : E.1 0 = s.heap.size) (hK : va_K (E.2.1, E.2.2.1) bw_cls (bw_ty E) s) (hstr : str 4000 = b) (hO : ∀ E : bw_E, (∀ i, 148 ≤ i → E.1 i = str i) → (∀ i, i < 148 → s.heap.size ≤ E.1 i) → bw_O E s ∧ gj_T E s) (hP : bk_H E (bv_CS E) H) (hS : va_S (bk_A E) s.heap H locs) (hls : lv_has ls 7 [(4, .int 0), (3, .ref (E.1 147)), (2, .ref (E.1 120)), (1, .ref (E.1 0)), (0, .ref b)]) : W p l e room_1 s m #[Value.ref b] below meth c H locs 148 13538 (lw_Z below #[Value.ref b] s) (F0 m 23 ls []) := by
  obtain ⟨hx, hb, hr, hml, hown, hts, hX, hbl, hlocks, hgv⟩ := id C0
  have hge : ∀ i, i < 148 → s.heap.size ≤ (bv_E E str).1 i := fun i hi => by
    rw [bv_E1 hi, hE (bv_pos i), hE0]
    exact Nat.le_add_right _ _
  obtain ⟨o1, o2⟩ := hO (bv_E E str) (fun i hi => if_neg (by omega)) hge
  have e0 : (bv_E E str).1 0 = s.heap.size := hE0
  have e4 : (bv_E E str).1 4000 = b := by
    show (if 4000 < 148 then E.1 (bv_pos 4000) else str 4000) = b
    rw [if_neg (by decide)]
    exact hstr
  exact zl_loop (E := bv_E E str) (b := b) (L := L) (xs := xs) hL 513 0 bv_w0 rfl bv_0_0 p l e s m #[Value.ref b] below meth c H locs ls ⟨⟨hx, hb, hml, hr, hown, fun w hw => hts w (List.mem_filter.mp hw).1, hlocks, hK, bv_inj hE, o1⟩, fun q hq => by
      obtain ⟨i, hi, rfl⟩ := hq
      show (bv_E E str).1 0 ≤ _
      rw [e0]
      exact hge i hi, fun q hq _ => by
      intro z
      have z1 : (bv_E E str).1 0 ≤ q := z
      omega⟩ ⟨hl, rfl, hX, hbl, e4, by rw [e0]; exact Nat.le_refl _, o2⟩ (bv_P hP.1) hS (zl_lr e4 rfl rfl rfl hls)
theorem whole_start {p : Program} {e : Env} {s : State} {m : MethodId} {below : List Frame} {meth : Method} {c : Code} (l : Launch) (hflags : l.flags = flags0) {b L : Nat} {xs : Nat → Int32} (hL : L ≤ 3072) (C0 : lw_At p s m meth c b L xs) : W p l e room_1 s m #[Value.ref b] below meth c s.heap [] 0 0 (lw_Z below #[Value.ref b] s) (entryFrame m ([Value.ref b] : List Value).toArray 7) := by
  obtain ⟨hx, hb, hr, hml, hown, hts, hX, hbl, hlocks, hgv⟩ := id C0
  have hl0 : l.stackTraces = false := by
    unfold Launch.stackTraces
    rw [hflags]
    decide +kernel
  obtain ⟨dC, dI, dA, hK⟩ := bs_K hts
  obtain ⟨str, hstr, hO⟩ := bs_O hts hgv
  obtain ⟨E, hEd⟩ : ∃ E : bw_E, E = (fun i => s.heap.size + i, dC, dI, dA) := ⟨_, rfl⟩
  have hE1 : ∀ i, E.1 i = s.heap.size + i := fun i => by rw [hEd]
  have hE : bk_E E := fun i => by
    rw [hE1, hE1]
    omega
  have hKE : va_K (E.2.1, E.2.2.1) bw_cls (bw_ty E) s := by
    subst hEd
    exact hK _
  have hC : bj_C E code "BentWordsLaw" p s m #[Value.ref b] c := ⟨hx, hb, hown, fun w hw => hts w (List.mem_filter.mp hw).1, hKE, hE, bs_X hts⟩
  have hP0 : bk_H E [] s.heap := ⟨fun k q h => by simp [bk_ws] at h, by rw [hE1]; rfl⟩
  have hS0 : va_S (bk_A E) s.heap s.heap [] := va_S.rf
  have hl := lv_entry ([.ref b]) (n := 7) (Nat.le_of_ble_eq_true rfl)
  rw [lg_entry_eq]
  generalize (lg_sl ([.ref b]) ++ List.replicate (7 - (lg_sl ([.ref b])).length) Slot.unset).toArray = ls at hl ⊢
  have hl : lv_has ls 7 [(0, .ref b)] := hl
  refine bj_new (cs := []) (idx := 8) (ci := 11) hC tyX11_ok in_X11 ⟨bw_mem1 25 (by decide +kernel) rfl, bw_mem1 26 (by decide +kernel) rfl, bw_mem1 1 (by decide +kernel) rfl⟩ rfl hfsX11 (Nat.le_of_ble_eq_true rfl) (Nat.le_of_ble_eq_true rfl) dL_law_0 hP0 hS0 (fun H hP hS => ?_)
  refine lv_dup (cc := code) hx hb dL_law_3 rfl ?_
  refine bj_callI (cs1 := bv_C1 E) (j := 0) hC hml ci_Law_15 (kX11 (j := 0) (K := 1) rfl rfl) (Nat.le_of_ble_eq_true rfl) ⟨Nat.le_of_ble_eq_true rfl, Nat.le_of_ble_eq_true rfl⟩ ⟨Nat.le_of_ble_eq_true rfl, Nat.le_of_ble_eq_true rfl⟩ hl.1 dL_law_4 hP hS (fun H locs hP hS => ?_)
  refine lv_astore_n (cc := code) (lv' := [(1, .ref (E.1 0)), (0, .ref b)]) hx hb dL_law_7 rfl hl (by decide) rfl (fun ls hl => ?_)
  refine bj_new (cs := bv_C1 E) (idx := 16) (ci := 12) hC tyX12_ok in_X12 ⟨bw_mem5 192 (by decide +kernel) rfl, bw_mem5 193 (by decide +kernel) rfl, bw_mem1 13 (by decide +kernel) rfl⟩ rfl hfsX12 (Nat.le_of_ble_eq_true rfl) (Nat.le_of_ble_eq_true rfl) dL_law_8 hP hS (fun H hP hS => ?_)
  rw [bj_C1len]
  refine lv_dup (cc := code) hx hb dL_law_11 rfl ?_
  refine bj_callI (cs1 := bv_C2 E) (j := 120) hC hml ci_Law_18 (kX12 (j := 120) (K := 121) (by rw [List.getElem?_append_right (by rw [bj_C1len]; exact Nat.le_refl _), bj_C1len]; rfl) (by rw [List.length_append, bj_C1len]; rfl)) (Nat.le_of_ble_eq_true rfl) ⟨Nat.le_of_ble_eq_true rfl, Nat.le_of_ble_eq_true rfl⟩ ⟨Nat.le_of_ble_eq_true rfl, Nat.le_of_ble_eq_true rfl⟩ hl.1 dL_law_12 hP hS (fun H locs hP hS => ?_)
  refine lv_astore_n (cc := code) (lv' := [(2, .ref (E.1 120)), (1, .ref (E.1 0)), (0, .ref b)]) hx hb dL_law_15 rfl hl (by decide) rfl (fun ls hl => ?_)
  refine lv_iconst (cc := code) (v := 1) hx hb dL_law_16 (by decide) ?_
  refine bj_newl (cs := bv_C2 E) (N := 1) hC rfl (by decide) (by decide) (Nat.le_of_ble_eq_true rfl) (Nat.le_of_ble_eq_true rfl) dL_law_17 hP hS (fun H hP hS => ?_)
  rw [bj_C2len]
  refine lv_astore_n (cc := code) (lv' := [(3, .ref (E.1 147)), (2, .ref (E.1 120)), (1, .ref (E.1 0)), (0, .ref b)]) hx hb dL_law_19 rfl hl (by decide) rfl (fun ls hl => ?_)
  refine lv_iconst (cc := code) (v := 0) hx hb dL_law_20 (by decide) ?_
  refine lv_istore (cc := code) (lv' := [(4, .int 0), (3, .ref (E.1 147)), (2, .ref (E.1 120)), (1, .ref (E.1 0)), (0, .ref b)]) hx hb dL_law_21 hl (by decide) rfl (fun ls hl => ?_)
  exact zl_start hl0 hL C0 hE (hE1 0) hKE hstr hO hP hS hl
