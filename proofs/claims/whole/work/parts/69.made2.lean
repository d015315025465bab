/-! constructors: stores into arrays of references, calls -/
section BKC
variable {E : bw_E} {R : Room} {M : bw_M} {pc : Nat} {L : List (Option Value)} {st : List Value} {cs cs2 : List va_E} {n0 k0 mc ms : Nat}
theorem bk_aast {j k N x ci : Nat} {r : vw_C} {vs : List Value} {i : Int32} {f : Nat → Option Nat} (hty : (bw_ty E)[k]? = some (E.2.2.2 k, .object r.1)) (ha : cs[j]? = some (.inl (E.2.2.2 k, N, .inr (.inr (.inr (.inr f)))))) (hv : cs[x]? = some (.inr (ci, vs))) (hcl : bw_cls[ci]? = some r) (hi : vp_in i N) (hd : decode M.2.1 pc = .ok (.aastore, 1)) (kk : bk_G E R M (pc + 1) L st (cs.set j (.inl (E.2.2.2 k, N, .inr (.inr (.inr (.inr (va_up f i.toNatClampNeg (some (E.1 x)))))))) ) n0 k0 mc ms cs2) : bk_G E R M pc L (.ref x :: .int i :: .ref j :: st) cs n0 k0 mc ms cs2 := by
  intro p l e s m args below meth c H locs ls hC hP hS hL
  have hK := hC.2.2.2.2.2.2.2.1
  have hD := bk_D (cs := cs) hC.2.2.2.2.2.2.2.2.2.1
  have hat := bk_at (E := E) ha
  have hlt : i.toNatClampNeg < N := Nat.not_le.mp fun q => hi (Or.inr q)
  have h0 : ¬ i < 0 := fun q => hi (Or.inl q)
  obtain ⟨r', hr', cellV, g1, g2, g3, -⟩ := hP.1 x _ (bk_at hv)
  have hcls := (hK.1 ci r hcl).2
  obtain ⟨kA, comp, k1, k2, k3, -⟩ := (hK.2 k _ hty).2
  have hcomp : comp = E.2.1 ci := Option.some.inj (k3.symm.trans hcls.1)
  subst hcomp
  obtain ⟨kC, hkC, -⟩ := hcls.2
  refine W.aast hC.1 hC.2.1 (hP.1 j _ hat) (fun q h => by cases h) (fun h => by cases h) k1 k2 rfl hkC ⟨h0, by show _ < (arrV _ _ _).slots.size; rw [arrV_size]; exact hlt⟩ g1 (fun q h => by rw [g3] at h; cases h) (by rw [g2]; exact hkC) (by rw [g2]; exact va_assign hcls) rfl rfl hd fun H1 e1 z oq => ?_
  have hP1 := va_P.set (e := .inl (E.2.2.2 k, N, .inr (.inr (.inr (.inr (va_up f i.toNatClampNeg (some (E.1 x)))))))) (H1 := H1) hP.1 hD hat (by
    show H1[E.1 j]? = some (vp_cell _ _)
    refine e1.trans ?_
    show some _ = some _
    rw [vp_cell_q, vp_cell_q, arrV_store]
    congr 2
    funext q
    by_cases hq : q = i.toNatClampNeg
    · subst hq
      simp [updV, va_up, va_rf, bw_v]
    · simp [updV, va_up, hq]) oq
  rw [bk_set] at hP1
  exact kk p l e s m args below meth c H1 _ ls hC ⟨hP1, by rw [z, hP.2, List.length_set]⟩ (hS.put z oq (hD.2 j _ hat)) hL
theorem bk_back {p : Program} {l : Launch} {e : Env} {s : State} {m : MethodId} {args : Array Value} {below : List Frame} {meth : Method} {c : Code} {H : Heap} {locs : List Loc} {ls : Array Slot} {st0 : List Value} {cs1 : List va_E} {aa : Array Value} {mc1 ms1 : Nat} (hC : bk_C E M p s m args meth c) (hS : va_S (bk_A E) s.heap H locs) (hL : bw_lr E L ls M.2.2.1)
    (hr : va_Run p l e R s m args below meth c H locs n0 k0 mc1 ms1 (F0 m pc ls st0) (st.map (bw_v E)) (bk_Q E cs1 aa) (bk_A E)) (kk : bk_G E R M (pc + 3) L st cs1 (n0 + mc1) (k0 + ms1) mc ms cs2) :
    W p l e R s m args below meth c H locs n0 k0 (MQ below (bk_Q E cs2) args s mc ms (bk_A E)) (F0 m pc ls st0) := by
  intro T hT X
  obtain ⟨v, st₀, t, T', L', h0, X', hL', e1, e2, ⟨⟨hv, hP'⟩, hz, hk⟩, go⟩ := hr T hT X
  rw [h0] at hz hk
  have hv' : v = none := by
    injection hv
  subst hv'
  have hS' : va_S (bk_A E) s.heap T'.heap (locs ++ L') := by
    refine ⟨Nat.le_trans hS.1 (by rw [e1]; exact hz), fun q h1 h2 => ?_, fun q hq => ?_⟩
    · rw [e1, hk q (Nat.lt_of_lt_of_le h1 hS.1) h2]
      exact hS.2.1 q h1 h2
    · rcases List.mem_append.mp hq with h | h
      · exact hS.2.2 q h
      · exact hL' q h
  obtain ⟨t2, a1, b1⟩ := kk p l e s m args below meth c T'.heap (locs ++ L') ls hC (by rw [e1]; exact hP') hS' hL T' rfl X'
  exact ⟨t2, go t2 a1, b1⟩
theorem bk_cat (E : bw_E) (l : List Value) : ((l.map (bw_v E)).map fun v => v.category) = l.map fun v => v.category := by
  rw [List.map_map]
  exact List.map_congr_left (fun v _ => bw_v_cat E v)
def bk_ci (own : String) (idx n : Nat) (M' : bw_M) : Prop := Cond.methodLink own idx M'.1 ∈ bw_tbl ∧ Cond.instanceMethod M'.1 ∈ bw_tbl ∧ Cond.initialized M'.1.cls ∈ bw_tbl ∧ Cond.code M'.1 M'.2.1 M'.2.2.1 M'.2.2.2 ∈ bw_tbl ∧ (M'.1.cls ≠ "java/lang/invoke/MethodHandle" ∧ M'.1.cls ≠ "java/lang/invoke/VarHandle" ∧ (parseMethodDescriptor M'.1.desc).map (fun d => d.parameters.length) = some n) ∧ M'.2.2.1 ≤ 21 ∧ M'.1.name = "<init>" ∧ M'.2.2.2 = none
def bk_cn (own : String) (idx n : Nat) (M' : bw_M) (host : String) : Prop := (own, idx, M'.1, host) ∈ bk_nest ∧ Cond.instanceMethod M'.1 ∈ bw_tbl ∧ Cond.initialized M'.1.cls ∈ bw_tbl ∧ Cond.code M'.1 M'.2.1 M'.2.2.1 M'.2.2.2 ∈ bw_tbl ∧ (M'.1.cls ≠ "java/lang/invoke/MethodHandle" ∧ M'.1.cls ≠ "java/lang/invoke/VarHandle" ∧ (parseMethodDescriptor M'.1.desc).map (fun d => d.parameters.length) = some n) ∧ M'.2.2.1 ≤ 21 ∧ M'.1.name = "<init>" ∧ M'.2.2.2 = none
theorem bk_pre {p : Program} {s : State} {m : MethodId} {args : Array Value} {meth : Method} {c : Code} {H : Heap} (A : List Value) (hC : bk_C E M p s m args meth c) (hP : bk_H E cs H) : ∀ U : State, U.heap = H → s.WarmedH U.vm → bk_P E A cs (A.map (bw_v E)).toArray U :=
  fun U hU hW => ⟨rfl, by rw [hU]; exact hP, va_K.moved hW.alike hC.2.2.2.2.2.2.2.1, hC.2.2.2.2.2.2.2.2.2.1, hC.2.2.2.2.2.2.2.2.2.2.1.warm hW⟩
theorem bk_callI {idx n j f mc1 ms1 : Nat} {As st0 : List Value} {M' : bw_M} {cs1 : List va_E} (hc : bk_ci M.1.cls idx n M') (hr : bk_run E f M' (.ref j :: As) cs cs1 mc1 ms1) (hn : As.length = n) (hst : st0 = As.reverse ++ .ref j :: st) (hw : (st.map fun v => v.category).sum ≤ 8) (hR : f + 1 ≤ R.frames ∧ 40 * (f + 1) ≤ R.locals) (h1 : n0 + mc1 ≤ R.cells ∧ k0 + ms1 ≤ R.slots) (hd : decode M.2.1 pc = .ok (.invokespecial idx, 3)) (kk : bk_G E R M (pc + 3) L st cs1 (n0 + mc1) (k0 + ms1) mc ms cs2) : bk_G E R M pc L st0 cs n0 k0 mc ms cs2 := by
  intro p l e s m args below meth c H locs ls hC hP hS hL
  obtain ⟨y', b', mL', r'⟩ := M'
  obtain ⟨c1, c2, c4, c5, c6, c7, c8, c9⟩ := hc
  dsimp only at c9 c7
  subst c9
  have ht := hC.2.2.2.2.2.1
  subst hst
  have := va_runI (p := p) (l := l) (e := e) (below := below) (meth := meth) (R := R) (As := As.map (bw_v E)) (rest := st.map (bw_v E)) (g := F0 m pc ls ((As.reverse ++ .ref j :: st).map (bw_v E))) (cells := n0) (slots := k0) (locs := locs) (S := ⟨hC.1, hC.2.1, hC.2.2.1, hC.2.2.2.2.1, ht⟩) (hr l) (index := idx) (n := n) (bytes := b') (maxL := mL') (b := E.1 j) (H := H)
    ⟨callB_of n ht (bw_gw (M' := (y', b', mL', none)) c5) rfl rfl rfl (ht _ c4) (ht _ c1) c6 ⟨hR.1, by show 8 + (mL' + 11) + 40 * f ≤ R.locals; have := hR.2; omega⟩, c8, ht _ c2⟩
    ⟨bk_blind E _ cs, bk_pre (.ref j :: As) hC hP⟩ rfl (by rw [List.length_map]; exact hn) hL.1 (by simp [bw_v]) (by rw [bk_cat]; simpa [JFrame.monitorRoom] using hw) hd h1
  exact bk_back (st := st) hC hS hL this kk
theorem bk_callN {idx n j f mc1 ms1 : Nat} {As st0 : List Value} {M' : bw_M} {host : String} {cs1 : List va_E} (hc : bk_cn M.1.cls idx n M' host) (hr : bk_run E f M' (.ref j :: As) cs cs1 mc1 ms1) (hn : As.length = n) (hst : st0 = As.reverse ++ .ref j :: st) (hw : (st.map fun v => v.category).sum ≤ 8) (hR : f + 1 ≤ R.frames ∧ 40 * (f + 1) ≤ R.locals) (h1 : n0 + mc1 ≤ R.cells ∧ k0 + ms1 ≤ R.slots) (hd : decode M.2.1 pc = .ok (.invokespecial idx, 3)) (kk : bk_G E R M (pc + 3) L st cs1 (n0 + mc1) (k0 + ms1) mc ms cs2) : bk_G E R M pc L st0 cs n0 k0 mc ms cs2 := by
  intro p l e s m args below meth c H locs ls hC hP hS hL
  obtain ⟨y', b', mL', r'⟩ := M'
  obtain ⟨c1, c2, c4, c5, c6, c7, c8, c9⟩ := hc
  dsimp only at c9 c7
  subst c9
  have ht := hC.2.2.2.2.2.1
  subst hst
  have := va_runIN (p := p) (l := l) (e := e) (below := below) (meth := meth) (R := R) (As := As.map (bw_v E)) (rest := st.map (bw_v E)) (g := F0 m pc ls ((As.reverse ++ .ref j :: st).map (bw_v E))) (cells := n0) (slots := k0) (locs := locs) (S := ⟨hC.1, hC.2.1, hC.2.2.1, hC.2.2.2.2.1, ht⟩) (hr l) (host := host) (index := idx) (n := n) (bytes := b') (maxL := mL') (b := E.1 j) (H := H)
    ⟨va_cnB n ht (bw_gw (M' := (y', b', mL', none)) c5) rfl rfl rfl (hC.2.2.2.2.2.2.2.2.2.2.1.1 _ c1) (ht _ c4) c6 ⟨hR.1, by show 8 + (mL' + 11) + 40 * f ≤ R.locals; have := hR.2; omega⟩, c8, ht _ c2⟩
    ⟨bk_blind E _ cs, bk_pre (.ref j :: As) hC hP⟩ rfl (by rw [List.length_map]; exact hn) hL.1 (by simp [bw_v]) (by rw [bk_cat]; simpa [JFrame.monitorRoom] using hw) hd h1
  exact bk_back (st := st) hC hS hL this kk
end BKC
