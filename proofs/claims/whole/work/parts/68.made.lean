theorem bk_o1 : Cond.instanceMethod Lib.objectInit ∈ bw_tbl := bw_mem1 31 (by decide +kernel) rfl
theorem bk_o2 : Cond.code Lib.objectInit ⟨#[0xb1]⟩ 1 none ∈ bw_tbl := bw_mem1 32 (by decide +kernel) rfl
theorem bk_ai : Cond.arrayClass .int ∈ bw_tbl := bw_mem1 173 (by decide +kernel) rfl
theorem bk_al : Cond.arrayClass .long ∈ bw_tbl := bw_mem1 172 (by decide +kernel) rfl
theorem bk_ac : Cond.arrayClass .char ∈ bw_tbl := bw_mem1 51 (by decide +kernel) rfl
/-! constructors: the cells that were made, one behind another -/
def bk_ws (E : bw_E) (cs : List va_E) : va_W := cs.mapIdx (fun i e => (E.1 i, e))
def bk_A (E : bw_E) : Nat → Prop := fun q => E.1 0 ≤ q
def bk_E (E : bw_E) : Prop := ∀ i, E.1 i = E.1 0 + i
def bk_H (E : bw_E) (cs : List va_E) (H : Heap) : Prop := va_P (E.2.1, E.2.2.1) bw_cls (bk_ws E cs) H ∧ H.size = E.1 0 + cs.length
def bk_nest : List (String × Nat × MethodName × String) := [("BentWords$Script", 17, yX8_init, "BentWords"), ("BentWords", 93, yX1_init, "BentWords"), ("BentWords", 100, yX8_init, "BentWords")]
def bk_X (U : State) : Prop := (∀ z ∈ bk_nest, va_Nw (.methodLinkNest z.1 z.2.1 z.2.2.1 z.2.2.2) U) ∧ va_AO "BentWords$Script" U ∧ va_AO "BentWords$Step" U
theorem bk_X.warm {s U : State} (hW : s.WarmedH U.vm) (h : bk_X s) : bk_X U := ⟨fun z hz => va_Nw.warmM hW (h.1 z hz), h.2.1.moved hW.alike, h.2.2.moved hW.alike⟩
theorem bk_X.calling {U : State} (h : bk_X U) (g : JFrame) (mk : MethodId) (a : Array Value) : bk_X (U.calling g mk a) := ⟨fun z hz => va_Nw.same rfl rfl (h.1 z hz), va_AO.moved (u := U) (U := U.calling g mk a) (Vm.Alike.refl U.vm) h.2.1, va_AO.moved (u := U) (U := U.calling g mk a) (Vm.Alike.refl U.vm) h.2.2⟩
theorem bk_at {E : bw_E} {cs : List va_E} {i : Nat} {e : va_E} (h : cs[i]? = some e) : (bk_ws E cs)[i]? = some (E.1 i, e) := by
  unfold bk_ws
  rw [List.getElem?_mapIdx, h]
  rfl
theorem bk_of {E : bw_E} {cs : List va_E} {i : Nat} {q : Nat × va_E} (h : (bk_ws E cs)[i]? = some q) : q.1 = E.1 i ∧ cs[i]? = some q.2 := by
  unfold bk_ws at h
  rw [List.getElem?_mapIdx] at h
  cases e : cs[i]? with
  | none => rw [e] at h; cases h
  | some x => rw [e] at h; cases h; exact ⟨rfl, rfl⟩
theorem bk_set {E : bw_E} {cs : List va_E} {i : Nat} {e : va_E} : (bk_ws E cs).set i (E.1 i, e) = bk_ws E (cs.set i e) := by
  apply List.ext_getElem?
  intro j
  unfold bk_ws
  rw [List.getElem?_set, List.getElem?_mapIdx, List.getElem?_mapIdx, List.getElem?_set, List.length_mapIdx]
  by_cases hij : i = j
  · subst hij
    rw [if_pos rfl, if_pos rfl]
    by_cases hl : i < cs.length
    · rw [if_pos hl, if_pos hl]; rfl
    · rw [if_neg hl, if_neg hl]; rfl
  · rw [if_neg hij, if_neg hij]
theorem bk_push {E : bw_E} {cs : List va_E} {e : va_E} : bk_ws E cs ++ [(E.1 cs.length, e)] = bk_ws E (cs ++ [e]) := by
  unfold bk_ws
  rw [List.mapIdx_append]
  simp
theorem bk_D {E : bw_E} {cs : List va_E} (h : bk_E E) : va_D (bk_A E) (bk_ws E cs) := by
  refine ⟨fun i j a b hi hj hab => ?_, fun k q hk => ?_⟩
  · have h1 := (bk_of hi).1
    have h2 := (bk_of hj).1
    rw [h1, h2, h i, h j] at hab
    omega
  · show E.1 0 ≤ q.1
    rw [(bk_of hk).1, h k]
    omega
def bk_C (E : bw_E) (M : bw_M) (p : Program) (s : State) (m : MethodId) (args : Array Value) (meth : Method) (c : Code) : Prop :=
  p.tables.exec = Jvm.exec ∧ c.code = M.2.1 ∧ c.maxLocals = M.2.2.1 ∧ meth.sig.returnType = M.2.2.2 ∧ s.vm.findClass M.1.cls = some m.cls ∧ (∀ w ∈ bw_tbl, w.before args s = true) ∧ meth.locks = false ∧ va_K (E.2.1, E.2.2.1) bw_cls (bw_ty E) s ∧ meth.name = "<init>" ∧ bk_E E ∧ bk_X s ∧ E.1 0 ≤ s.heap.size
def bk_Q (E : bw_E) (cs : List va_E) : Array Value → State → Outcome → State → Prop := fun _ st o t => (o = .returned none ∧ bk_H E cs t.heap) ∧ va_F (bk_A E) st t
def bk_G (E : bw_E) (R : Room) (M : bw_M) (pc : Nat) (L : List (Option Value)) (st : List Value) (cs : List va_E) (n k mc ms : Nat) (cs2 : List va_E) : Prop :=
  ∀ (p : Program) (l : Launch) (e : Env) (s : State) (m : MethodId) (args : Array Value) (below : List Frame) (meth : Method) (c : Code) (H : Heap) (locs : List Loc) (ls : Array Slot),
    bk_C E M p s m args meth c → bk_H E cs H → va_S (bk_A E) s.heap H locs → bw_lr E L ls M.2.2.1 →
    W p l e R s m args below meth c H locs n k (MQ below (bk_Q E cs2) args s mc ms (bk_A E)) (F0 m pc ls (st.map (bw_v E)))
def bk_P (E : bw_E) (A : List Value) (cs : List va_E) : Array Value → State → Prop := fun a U => a = (A.map (bw_v E)).toArray ∧ bk_H E cs U.heap ∧ va_K (E.2.1, E.2.2.1) bw_cls (bw_ty E) U ∧ bk_E E ∧ bk_X U
/-- a constructor's contract: the cells cs become cs2; mc cells of ms slots are new -/
def bk_run (E : bw_E) (f : Nat) (M : bw_M) (A : List Value) (cs cs2 : List va_E) (mc ms : Nat) : Prop := ∀ l : Launch, Met l M.1 (bw_wd M) { frames := f, cells := mc, slots := ms, locals := 40 * f } (bk_P E A cs) (bk_Q E cs2) mc ms (bk_A E)
theorem bk_blind (E : bw_E) (A : List Value) (cs : List va_E) : FrameBlind (bk_P E A cs) := by
  intro a U g mk ⟨h1, h2, h3, h4, h5⟩
  exact ⟨h1, h2, va_K.moved (u := U) (U := U.calling g mk a) (Vm.Alike.refl U.vm) h3, h4, h5.calling g mk a⟩
theorem bk_enter {E : bw_E} {f : Nat} {M : bw_M} {A : List Value} {cs cs2 : List va_E} {mc ms : Nat} (hp : plainName M.1.cls = true) (hy : M.1.name = "<init>") (hn : (lg_sl (A.map (bw_v E))).length ≤ M.2.2.1) (h : bk_G E { frames := f, cells := mc, slots := ms, locals := 40 * f } M 0 (bw_en A M.2.2.1) [] cs 0 0 mc ms cs2) : bk_run E f M A cs cs2 mc ms := by
  intro l
  refine Met.ofW (cc := M.2.1) (maxL := M.2.2.1) (ret := M.2.2.2) hp rfl ?_
  intro p e s m args below meth c s₁ B hml hv
  obtain ⟨rfl, hP, hK, hI, hO⟩ := hv
  have hts := atoms_spec (ws := bw_wd M) B.pre
  have hin : meth.name = "<init>" := ((name_of_methodNamed B.named B.method).1).trans hy
  rw [lg_entry_eq]
  exact h p l e s m _ below meth c s.heap [] _ ⟨B.exec, B.bytes, hml, B.returns, findClass_of_methodNamed B.named, fun w hw => hts w (List.mem_cons_of_mem _ hw), B.notSynchronized, hK, hin, hI, hO, by rw [hP.2]; omega⟩ hP va_S.rf (bw_lr_en E A hn)
section BKR
variable {E : bw_E} {R : Room} {M : bw_M} {pc : Nat} {L : List (Option Value)} {st : List Value} {cs cs2 : List va_E} {n0 k0 mc ms : Nat}
theorem bk_iconst {n : Int} {v : Int32} (hd : decode M.2.1 pc = .ok (.iconst n, 1)) (hv : Int32.ofInt n = v) (k : bk_G E R M (pc + 1) L (.int v :: st) cs n0 k0 mc ms cs2) : bk_G E R M pc L (st) cs n0 k0 mc ms cs2 :=
  fun p l e s m args below meth c H locs ls hC hP hS hL => lv_iconst hC.1 hC.2.1 hd hv (k p l e s m args below meth c H locs ls hC hP hS hL)
theorem bk_bipush {n : Int} {v : Int32} (hd : decode M.2.1 pc = .ok (.bipush n, 2)) (hv : (Int8.ofInt n).toInt32 = v) (k : bk_G E R M (pc + 2) L (.int v :: st) cs n0 k0 mc ms cs2) : bk_G E R M pc L (st) cs n0 k0 mc ms cs2 :=
  fun p l e s m args below meth c H locs ls hC hP hS hL => lv_bipush hC.1 hC.2.1 hd hv (k p l e s m args below meth c H locs ls hC hP hS hL)
theorem bk_sipush {n : Int} {v : Int32} (hd : decode M.2.1 pc = .ok (.sipush n, 3)) (hv : (Int16.ofInt n).toInt32 = v) (k : bk_G E R M (pc + 3) L (.int v :: st) cs n0 k0 mc ms cs2) : bk_G E R M pc L (st) cs n0 k0 mc ms cs2 :=
  fun p l e s m args below meth c H locs ls hC hP hS hL => lv_sipush hC.1 hC.2.1 hd hv (k p l e s m args below meth c H locs ls hC hP hS hL)
theorem bk_iload_n {k : Fin 4} {i : Nat} {x : Int32} (hd : decode M.2.1 pc = .ok (.iload_n k, 1)) (hi : (k : Nat) = i) (hl : L[i]? = some (some (.int x))) (kk : bk_G E R M (pc + 1) L (.int x :: st) cs n0 k0 mc ms cs2) : bk_G E R M pc L st cs n0 k0 mc ms cs2 :=
  fun p l e s m args below meth c H locs ls hC hP hS hL => lv_iload_n hC.1 hC.2.1 hd hi (hL.2.2 i _ hl) (kk p l e s m args below meth c H locs ls hC hP hS hL)
theorem bk_istore_n {k : Fin 4} {i : Nat} {x : Int32} {L' : List (Option Value)} (hd : decode M.2.1 pc = .ok (.istore_n k, 1)) (hi : (k : Nat) = i) (hn : i < M.2.2.1) (hl : bw_s1 L i (.int x) = L') (kk : bk_G E R M (pc + 1) L' st cs n0 k0 mc ms cs2) : bk_G E R M pc L (.int x :: st) cs n0 k0 mc ms cs2 :=
  fun p l e s m args below meth c H locs ls hC hP hS hL => lv_istore_n hC.1 hC.2.1 hd hi hL.has hn rfl (fun ls2 h2 => kk p l e s m args below meth c H locs ls2 hC hP hS (hl ▸ bw_lr_s1 h2))
theorem bk_aload_n {k : Fin 4} {i : Nat} {x : Nat} (hd : decode M.2.1 pc = .ok (.aload_n k, 1)) (hi : (k : Nat) = i) (hl : L[i]? = some (some (.ref x))) (kk : bk_G E R M (pc + 1) L (.ref x :: st) cs n0 k0 mc ms cs2) : bk_G E R M pc L st cs n0 k0 mc ms cs2 :=
  fun p l e s m args below meth c H locs ls hC hP hS hL => lv_aload_n hC.1 hC.2.1 hd hi (hL.2.2 i _ hl) (kk p l e s m args below meth c H locs ls hC hP hS hL)
theorem bk_iinc {i : Nat} {n : Int} {x v : Int32} {L' : List (Option Value)} (hd : decode M.2.1 pc = .ok (.iinc i n, 3)) (hg : L[i]? = some (some (.int x))) (hv : x + Int32.ofInt n = v) (hn : i < M.2.2.1) (hl : bw_s1 L i (.int v) = L') (kk : bk_G E R M (pc + 3) L' st cs n0 k0 mc ms cs2) : bk_G E R M pc L st cs n0 k0 mc ms cs2 := by
  intro p l e s m args below meth c H locs ls hC hP hS hL
  obtain ⟨k, hk⟩ := List.getElem?_of_mem (bw_as_mem (E := E) hg)
  exact lv_iinc hC.1 hC.2.1 hd hL.has hk hv hn rfl (fun ls2 h2 => kk p l e s m args below meth c H locs ls2 hC hP hS (hl ▸ bw_lr_s1 (v := .int v) h2))
theorem bk_goto {off : Int} {tgt : Nat} (hd : decode M.2.1 pc = .ok (.goto off, 3)) (ht : (pc : Int) + off = (tgt : Int)) (k : bk_G E R M tgt L st cs n0 k0 mc ms cs2) : bk_G E R M pc L st cs n0 k0 mc ms cs2 :=
  fun p l e s m args below meth c H locs ls hC hP hS hL => lv_goto hC.1 hC.2.1 hd ht (k p l e s m args below meth c H locs ls hC hP hS hL)
theorem bk_dup {v : Value} (hd : decode M.2.1 pc = .ok (.dup, 1)) (hv : v.category = 1) (k : bk_G E R M (pc + 1) L (v :: v :: st) cs n0 k0 mc ms cs2) : bk_G E R M pc L (v :: st) cs n0 k0 mc ms cs2 :=
  fun p l e s m args below meth c H locs ls hC hP hS hL => lv_dup hC.1 hC.2.1 hd ((bw_v_cat E v).trans hv) (k p l e s m args below meth c H locs ls hC hP hS hL)
theorem bk_icmp_ge {x y : Int32} {off : Int} {tgt : Nat} (hd : decode M.2.1 pc = .ok (.if_icmp .ge off, 3)) (ht : (pc : Int) + off = (tgt : Int)) (kt : y ≤ x → bk_G E R M tgt L st cs n0 k0 mc ms cs2) (kf : ¬ (y ≤ x) → bk_G E R M (pc + 3) L st cs n0 k0 mc ms cs2) : bk_G E R M pc L (.int y :: .int x :: st) cs n0 k0 mc ms cs2 :=
  fun p l e s m args below meth c H locs ls hC hP hS hL => lv_icmp_ge hC.1 hC.2.1 hd ht (fun h => kt h p l e s m args below meth c H locs ls hC hP hS hL) (fun h => kf h p l e s m args below meth c H locs ls hC hP hS hL)
theorem bk_oinit {idx x : Nat} (hl : Cond.methodLink M.1.cls idx Lib.objectInit ∈ bw_tbl) (hR : 1 ≤ R.frames ∧ 20 ≤ R.locals) (hd : decode M.2.1 pc = .ok (.invokespecial idx, 3)) (k : bk_G E R M (pc + 3) L [] cs n0 k0 mc ms cs2) : bk_G E R M pc L [.ref x] cs n0 k0 mc ms cs2 :=
  fun p l e s m args below meth c H locs ls hC hP hS hL => W.objInit hC.1 hC.2.1 hC.2.2.2.2.1 (hC.2.2.2.2.2.1 _ hl) (hC.2.2.2.2.2.1 _ bk_o1) (hC.2.2.2.2.2.1 _ bk_o2) rfl (hL.1.trans hC.2.2.1.symm) rfl hd hR.1 (by
    have := hR.2
    simp [JFrame.monitorRoom]
    omega) (k p l e s m args below meth c H locs ls hC hP hS hL)
/-- a cell more -/
theorem bk_more {e0 : va_E} {H H1 : Heap} (hE : bk_E E) (hP : bk_H E cs H) (z : H1.size = H.size + 1) (o : ∀ q, q < H.size → H1[q]? = H[q]?) (he : va_at (E.2.1, E.2.2.1) bw_cls (E.1 cs.length, e0) H1) : bk_H E (cs ++ [e0]) H1 := by
  refine ⟨?_, by rw [z, hP.2, List.length_append]; rfl⟩
  rw [← bk_push]
  refine (hP.1.kept (fun k x hx => o x.1 ((hP.1 k x hx).lt))).app (fun k x hx => ?_)
  have hz : k < 1 := (List.getElem?_eq_some_iff.mp hx).1
  rw [show k = 0 by omega] at hx
  cases hx
  exact he
theorem bk_S {A : Nat → Prop} {H0 H H1 : Heap} {locs : List Loc} (hS : va_S A H0 H locs) (z : H1.size = H.size + 1) (o : ∀ q, q < H.size → H1[q]? = H[q]?) : va_S A H0 H1 locs := ⟨Nat.le_trans hS.1 (by omega), fun x h1 h2 => (o x (Nat.lt_of_lt_of_le h1 hS.1)).trans (hS.2.1 x h1 h2), hS.2.2⟩
theorem bk_sz {H : Heap} (hE : bk_E E) (hP : bk_H E cs H) : H.size = E.1 cs.length := by rw [hP.2, hE cs.length]

theorem bk_newi {n : Int32} {N : Nat} (hN : n.toNatClampNeg = N) (hn : ¬ n < 0) (hb : N ≤ 60000000) (hc : n0 + 1 ≤ R.cells) (hs : k0 + N ≤ R.slots) (hd : decode M.2.1 pc = .ok (.newarray .int, 2)) (kk : bk_G E R M (pc + 2) L (.ref cs.length :: st) (cs ++ [.inl (E.2.2.2 0, N, .inl (fun _ => 0))]) (n0 + 1) (k0 + N) mc ms cs2) : bk_G E R M pc L (.int n :: st) cs n0 k0 mc ms cs2 := by
  intro p l e s m args below meth c H locs ls hC hP hS hL
  refine va_newaK (atype := .int) hC.1 hC.2.1 (hC.2.2.2.2.2.1 _ bk_ai) rfl hd rfl hn hN (by show N * _ ≤ 536870912; simp only [newarray.typeOf, componentBytes]; omega) hc hs rfl fun H1 cA e1 z1 o1 hAr hNm => ?_
  have hk := (hC.2.2.2.2.2.2.2.1.2 0 _ rfl).2
  have hcA : cA = E.2.2.2 0 := Option.some.inj (hNm.symm.trans hk)
  subst hcA
  have hz := bk_sz hC.2.2.2.2.2.2.2.2.2.1 hP
  have hP1 := bk_more (e0 := .inl (E.2.2.2 0, N, .inl (fun _ => 0))) hC.2.2.2.2.2.2.2.2.2.1 hP z1 o1 (by rw [← hz]; exact e1)
  have := kk p l e s m args below meth c H1 locs ls hC hP1 (bk_S hS z1 o1) hL
  simp only [List.map_cons, bw_v] at this
  rw [← hz] at this
  exact this

theorem bk_newl {n : Int32} {N : Nat} (hN : n.toNatClampNeg = N) (hn : ¬ n < 0) (hb : N ≤ 60000000) (hc : n0 + 1 ≤ R.cells) (hs : k0 + N ≤ R.slots) (hd : decode M.2.1 pc = .ok (.newarray .long, 2)) (kk : bk_G E R M (pc + 2) L (.ref cs.length :: st) (cs ++ [.inl (E.2.2.2 1, N, .inr (.inl (fun _ => 0)))]) (n0 + 1) (k0 + N) mc ms cs2) : bk_G E R M pc L (.int n :: st) cs n0 k0 mc ms cs2 := by
  intro p l e s m args below meth c H locs ls hC hP hS hL
  refine va_newaK (atype := .long) hC.1 hC.2.1 (hC.2.2.2.2.2.1 _ bk_al) rfl hd rfl hn hN (by show N * _ ≤ 536870912; simp only [newarray.typeOf, componentBytes]; omega) hc hs rfl fun H1 cA e1 z1 o1 hAr hNm => ?_
  have hk := (hC.2.2.2.2.2.2.2.1.2 1 _ rfl).2
  have hcA : cA = E.2.2.2 1 := Option.some.inj (hNm.symm.trans hk)
  subst hcA
  have hz := bk_sz hC.2.2.2.2.2.2.2.2.2.1 hP
  have hP1 := bk_more (e0 := .inl (E.2.2.2 1, N, .inr (.inl (fun _ => 0)))) hC.2.2.2.2.2.2.2.2.2.1 hP z1 o1 (by rw [← hz]; exact e1)
  have := kk p l e s m args below meth c H1 locs ls hC hP1 (bk_S hS z1 o1) hL
  simp only [List.map_cons, bw_v] at this
  rw [← hz] at this
  exact this

theorem bk_newc {n : Int32} {N : Nat} (hN : n.toNatClampNeg = N) (hn : ¬ n < 0) (hb : N ≤ 60000000) (hc : n0 + 1 ≤ R.cells) (hs : k0 + N ≤ R.slots) (hd : decode M.2.1 pc = .ok (.newarray .char, 2)) (kk : bk_G E R M (pc + 2) L (.ref cs.length :: st) (cs ++ [.inl (E.2.2.2 2, N, .inl (fun _ => 0))]) (n0 + 1) (k0 + N) mc ms cs2) : bk_G E R M pc L (.int n :: st) cs n0 k0 mc ms cs2 := by
  intro p l e s m args below meth c H locs ls hC hP hS hL
  refine va_newaK (atype := .char) hC.1 hC.2.1 (hC.2.2.2.2.2.1 _ bk_ac) rfl hd rfl hn hN (by show N * _ ≤ 536870912; simp only [newarray.typeOf, componentBytes]; omega) hc hs rfl fun H1 cA e1 z1 o1 hAr hNm => ?_
  have hk := (hC.2.2.2.2.2.2.2.1.2 2 _ rfl).2
  have hcA : cA = E.2.2.2 2 := Option.some.inj (hNm.symm.trans hk)
  subst hcA
  have hz := bk_sz hC.2.2.2.2.2.2.2.2.2.1 hP
  have hP1 := bk_more (e0 := .inl (E.2.2.2 2, N, .inl (fun _ => 0))) hC.2.2.2.2.2.2.2.2.2.1 hP z1 o1 (by rw [← hz]; exact e1)
  have := kk p l e s m args below meth c H1 locs ls hC hP1 (bk_S hS z1 o1) hL
  simp only [List.map_cons, bw_v] at this
  rw [← hz] at this
  exact this

theorem bk_new {idx ci N : Nat} {C : String} {T : u_T} {ty : Nat → FieldType} {fs : List Value} (hty : ∀ k, k < N → parseFieldDescriptor (T k).2.2.1 = some (ty k)) (hin : ∀ w ∈ u_ws C T N, w ∈ bw_tbl) (hw : Cond.classLink M.1.cls idx C ∈ bw_tbl ∧ Cond.instantiable C N ∈ bw_tbl ∧ Cond.initialized C ∈ bw_tbl) (hcl : bw_cls[ci]? = some (C, T, N)) (hfs : ∀ j, j < N → defaultValue (ty j) = vp_V fs j) (hc : n0 + 1 ≤ R.cells) (hs : k0 + N ≤ R.slots) (hd : decode M.2.1 pc = .ok (.new idx, 3)) (kk : bk_G E R M (pc + 3) L (.ref cs.length :: st) (cs ++ [.inr (ci, fs)]) (n0 + 1) (k0 + N) mc ms cs2) : bk_G E R M pc L st cs n0 k0 mc ms cs2 := by
  intro p l e s m args below meth c H locs ls hC hP hS hL
  have hKn := hC.2.2.2.2.2.2.2.1.1 ci _ hcl
  refine W.newcK hC.1 hC.2.1 hC.2.2.2.2.1 (hC.2.2.2.2.2.1 _ hw.1) (hC.2.2.2.2.2.1 _ hw.2.1) (hC.2.2.2.2.2.1 _ hw.2.2) rfl hd hc hs hKn.2.1 rfl fun H1 kC hkC e1 z1 o1 => ?_
  have hz := bk_sz hC.2.2.2.2.2.2.2.2.2.1 hP
  have hP1 := bk_more (e0 := .inr (ci, fs)) hC.2.2.2.2.2.2.2.2.2.1 hP z1 o1 (by rw [← hz]; exact ⟨_, hcl, (u_born ty hC.2.2.2.2.2.1 hin hKn hkC e1 hty).to hfs⟩)
  have := kk p l e s m args below meth c H1 locs ls hC hP1 (bk_S hS z1 o1) hL
  simp only [List.map_cons, bw_v] at this
  rw [← hz] at this
  exact this
theorem bk_newq {idx k : Nat} {C : String} {n : Int32} {N : Nat} (hty : bw_ty E = bw_ty E → (bw_ty E)[k]? = some (E.2.2.2 k, .object C)) (hw : Cond.classLink M.1.cls idx C ∈ bw_tbl) (hov : ∀ U, bk_X U → va_AO C U) (hN : n.toNatClampNeg = N) (hn : ¬ n < 0) (hb : N ≤ 60000000) (hc : n0 + 1 ≤ R.cells) (hs : k0 + N ≤ R.slots) (hd : decode M.2.1 pc = .ok (.anewarray idx, 3)) (kk : bk_G E R M (pc + 3) L (.ref cs.length :: st) (cs ++ [.inl (E.2.2.2 k, N, .inr (.inr (.inr (.inr (fun _ => none)))))]) (n0 + 1) (k0 + N) mc ms cs2) : bk_G E R M pc L (.int n :: st) cs n0 k0 mc ms cs2 := by
  intro p l e s m args below meth c H locs ls hC hP hS hL
  subst hN
  refine W.anew hC.1 hC.2.1 hC.2.2.2.2.1 (hC.2.2.2.2.2.1 _ hw) (va_AO.use (hov _ hC.2.2.2.2.2.2.2.2.2.2.1)) rfl hd rfl hn (by omega) hc hs fun cA kA comp f1 f2 f3 f4 => ?_
  obtain ⟨kA', comp', -, -, -, hk⟩ := (hC.2.2.2.2.2.2.2.1.2 k _ (hty rfl)).2
  have hcA : cA = E.2.2.2 k := Option.some.inj (f1.symm.trans hk)
  subst hcA
  generalize hH1 : H.push ({ cls := E.2.2.2 k, slots := Array.replicate n.toNatClampNeg .null, vm := .none } : Cell) = H1
  have z1 : H1.size = H.size + 1 := by rw [← hH1, Array.size_push]
  have e1 : H1[H.size]? = some (arrV (E.2.2.2 k) n.toNatClampNeg (fun _ => .null)) := by rw [← hH1, Array.getElem?_push_size, ← arrV_new]
  have o1 : ∀ q : Nat, q < H.size → H1[q]? = H[q]? := fun q hq => by rw [← hH1, Array.getElem?_push, if_neg (Nat.ne_of_lt hq)]
  have hz := bk_sz hC.2.2.2.2.2.2.2.2.2.1 hP
  have hP1 := bk_more (e0 := .inl (E.2.2.2 k, n.toNatClampNeg, .inr (.inr (.inr (.inr (fun _ => none)))))) hC.2.2.2.2.2.2.2.2.2.1 hP z1 o1 (by rw [← hz]; exact e1)
  have := kk p l e s m args below meth c H1 locs ls hC hP1 (bk_S hS z1 o1) hL
  simp only [List.map_cons, bw_v] at this
  rw [← hz] at this
  exact this
/-- a final field of an own object -/
theorem bk_put {idx j ci N k : Nat} {C : String} {T : u_T} {ty0 : Nat → FieldType} {ty : FieldType} {fs : List Value} {x : Nat} (hty : ∀ k, k < N → parseFieldDescriptor (T k).2.2.1 = some (ty0 k)) (hnm : ∀ a, a < N → ∀ b, b < N → a ≠ b → (T a).2.1 ≠ (T b).2.1) (hin : ∀ w ∈ u_ws C T N, w ∈ bw_tbl) (hcl : bw_cls[ci]? = some (C, T, N)) (hk : k < N) (hw : Cond.fieldLink M.1.cls idx (T k).1 (T k).2.1 (T k).2.2.1 ∈ bw_tbl) (hfin : (T k).2.2.2 = true) (hdecl : (T k).1 = M.1.cls) (hpd : parseFieldDescriptor (T k).2.2.1 = some ty) (hnr : ∀ a, narrow ty (.ref a) = .ref a ∧ fits ty (.ref a) = true) (he : cs[j]? = some (.inr (ci, fs))) (hl : k < fs.length) (hd : decode M.2.1 pc = .ok (.putfield idx, 3)) (kk : bk_G E R M (pc + 3) L st (cs.set j (.inr (ci, fs.set k (.ref (E.1 x))))) n0 k0 mc ms cs2) : bk_G E R M pc L (.ref x :: .ref j :: st) cs n0 k0 mc ms cs2 := by
  intro p l e s m args below meth c H locs ls hC hP hS hL
  have hts := hC.2.2.2.2.2.1
  have hK := hC.2.2.2.2.2.2.2.1
  have hD := bk_D (cs := cs) hC.2.2.2.2.2.2.2.2.2.1
  have hat := bk_at (E := E) he
  have hap := va_apart (own := M.1.cls) hts hin ty0 hty hnm hK hcl
  obtain ⟨r, h1, cell, q1, q2, q3, q4⟩ := hP.1 j _ hat
  have hr : r = (C, T, N) := Option.some.inj (h1.symm.trans hcl)
  subst hr
  obtain ⟨hSl, hfc, kC, hkC, hkind⟩ := hK.1 ci _ hcl
  obtain ⟨cf, kf, fi, f, hi, hsl⟩ := hSl k hk
  have hlay := hts _ (hin _ (u_in_lay hk))
  unfold u_lay at hlay
  rw [if_pos hfin] at hlay
  have hst := (u_facts hfc hkC (u_lays hts hin hk) hi).1
  have hcf : m.cls = cf := by
    obtain ⟨_, _, c', _, _, _, -, -, hf', -, -, -, hown2, -⟩ := Cond.laysFinal_spec hlay
    have e1 : c' = cf := by have := hi.symm.trans hf'; simp at this; exact this.1.symm
    rw [hdecl] at hown2
    rw [← e1]; exact Option.some.inj (hC.2.2.2.2.1.symm.trans hown2)
  have h6 := u_fits hfc hkC hkind (Or.inr hlay) hi hpd (hnr (E.1 x)).1 (hnr (E.1 x)).2
  refine W.putFinK hC.1 hC.2.1 hC.2.2.2.2.1 (hts _ hw) hi hst hcf hC.2.2.2.2.2.2.2.2.1 (by rw [q2]; exact h6) q1 q3 (by rw [hsl]; exact k2_hasslot (q4 k hk)) rfl rfl hd fun H' e1 e2 e3 => ?_
  rw [hsl] at e1
  have hP1 := va_P.set (e := .inr (ci, fs.set k (.ref (E.1 x)))) (H1 := H') hP.1 hD hat ⟨_, hcl, t_OB.to (V := updV (vp_V fs) k (.ref (E.1 x))) ⟨_, e1, q2, q3, t_set q4 hap hk (.ref (E.1 x))⟩ (fun j _ => vp_updV_set hl (.ref (E.1 x)) j)⟩ e3
  rw [bk_set] at hP1
  exact kk p l e s m args below meth c H' _ ls hC ⟨hP1, by rw [e2, hP.2, List.length_set]⟩ (hS.put e2 e3 (hD.2 j _ hat)) hL
theorem bk_get {idx j ci N k x : Nat} {C : String} {T : u_T} {fs : List Value} (hin : ∀ w ∈ u_ws C T N, w ∈ bw_tbl) (hcl : bw_cls[ci]? = some (C, T, N)) (hk : k < N) (hw : Cond.fieldLink M.1.cls idx (T k).1 (T k).2.1 (T k).2.2.1 ∈ bw_tbl) (he : cs[j]? = some (.inr (ci, fs))) (hv : fs[k]? = some (.ref (E.1 x))) (hd : decode M.2.1 pc = .ok (.getfield idx, 3)) (kk : bk_G E R M (pc + 3) L (.ref x :: st) cs n0 k0 mc ms cs2) : bk_G E R M pc L (.ref j :: st) cs n0 k0 mc ms cs2 :=
  fun p l e s m args below meth c H locs ls hC hP hS hL => va_get hC.1 hC.2.1 hC.2.2.2.2.2.1 hin hC.2.2.2.2.1 hC.2.2.2.2.2.2.2.1 hP.1 j (bk_at he) hcl k hk (hC.2.2.2.2.2.1 _ hw) (fun _ h => h) hv hd (kk p l e s m args below meth c H locs ls hC hP hS hL)
theorem bk_alen {j k N : Nat} {C : String} {v : Int32} {f : Nat → Option Nat} (hty : (bw_ty E)[k]? = some (E.2.2.2 k, .object C)) (he : cs[j]? = some (.inl (E.2.2.2 k, N, .inr (.inr (.inr (.inr f)))))) (hv : Int32.ofNat N = v) (hd : decode M.2.1 pc = .ok (.arraylength, 1)) (kk : bk_G E R M (pc + 1) L (.int v :: st) cs n0 k0 mc ms cs2) : bk_G E R M pc L (.ref j :: st) cs n0 k0 mc ms cs2 :=
  fun p l e s m args below meth c H locs ls hC hP hS hL => va_alen hC.1 hC.2.1 hC.2.2.2.2.2.2.2.1 hP.1 j k (bk_at he) hty hv hd (kk p l e s m args below meth c H locs ls hC hP hS hL)
theorem bk_ret (hr : M.2.2.2 = none) (h1 : cs = cs2) (h2 : n0 = mc) (h3 : k0 = ms) (hd : decode M.2.1 pc = .ok (.return_, 1)) : bk_G E R M pc L [] cs n0 k0 mc ms cs2 := by
  subst h1 h2 h3
  intro p l e s m args below meth c H locs ls hC hP hS hL
  exact W.vret hC.1 hC.2.1 (hC.2.2.2.1.trans hr) (fun t ht hW => ⟨⟨rfl, by rw [ht]; exact hP⟩, hS.F ht⟩) hS.2.2 hd hC.2.2.2.2.2.2.1
end BKR
