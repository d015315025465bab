/-! the judgement with any room and any end: what may make cells, what may throw, the law -/
def gj_C (E : bw_E) (M : bw_M) (A : Nat → Prop) (p : Program) (s : State) (m : MethodId) (args : Array Value) (meth : Method) (c : Code) : Prop :=
  bw_C E M p s m args meth c ∧ (∀ q, bw_A E q → A q) ∧ ∀ q, q < s.heap.size → ¬ bw_A E q → ¬ A q
def gj_G (E : bw_E) (R : Room) (M : bw_M) (A : Nat → Prop) (X : Launch → State → Array Value → Code → Prop) (Z : List Frame → Array Value → State → State → Prop) (pc : Nat) (L : List (Option Value)) (st : List Value) (w : bw_W) (n0 k0 : Nat) : Prop :=
  ∀ (p : Program) (l : Launch) (e : Env) (s : State) (m : MethodId) (args : Array Value) (below : List Frame) (meth : Method) (c : Code) (H : Heap) (locs : List Loc) (ls : Array Slot),
    gj_C E M A p s m args meth c → X l s args c → va_P (E.2.1, E.2.2.1) bw_cls (bw_ws E w) H → va_S A s.heap H locs → bw_lr E L ls M.2.2.1 →
    W p l e R s m args below meth c H locs n0 k0 (Z below args s) (F0 m pc ls (st.map (bw_v E)))
theorem gj_D {E : bw_E} {A : Nat → Prop} (hA : ∀ q, bw_A E q → A q) (hI : bw_inj E) (w : bw_W) : va_D A (bw_ws E w) := ⟨(bw_D hI w).1, fun k q hk => hA _ ((bw_D hI w).2 k q hk)⟩
theorem gj_O {E : bw_E} {M : bw_M} {A : Nat → Prop} {p : Program} {s U : State} {m : MethodId} {args : Array Value} {meth : Method} {c : Code} {H : Heap} {locs : List Loc} (hC : gj_C E M A p s m args meth c) (hS : va_S A s.heap H locs) (hU : U.heap = H) (hW : s.WarmedH U.vm) : bw_O E U :=
  bw_O.go (locs := []) hC.1.2.2.2.2.2.2.2.2.2 ⟨hS.1, fun q h1 h2 => hS.2.1 q h1 (hC.2.2 q h1 h2), fun _ h => by cases h⟩ hU hW
theorem gj_pre {E : bw_E} {M : bw_M} {A : Nat → Prop} {p : Program} {s : State} {m : MethodId} {args : Array Value} {meth : Method} {c : Code} {H : Heap} {locs : List Loc} {w : bw_W} (As : List Value) (hC : gj_C E M A p s m args meth c) (hP : va_P (E.2.1, E.2.2.1) bw_cls (bw_ws E w) H) (hS : va_S A s.heap H locs) : ∀ U : State, U.heap = H → s.WarmedH U.vm → bw_P E As w (As.map (bw_v E)).toArray U :=
  fun U hU hW => ⟨rfl, by rw [hU]; exact hP, va_K.moved hW.alike hC.1.2.2.2.2.2.2.2.1, hC.1.2.2.2.2.2.2.2.2.1, gj_O hC hS hU hW⟩
section BGR
variable {E : bw_E} {R : Room} {M : bw_M} {A : Nat → Prop} {X : Launch → State → Array Value → Code → Prop} {Z : List Frame → Array Value → State → State → Prop} {pc : Nat} {L : List (Option Value)} {st : List Value} {w : bw_W} {n0 k0 : Nat}

theorem gj_iadd {x y : Int32} (hd : decode M.2.1 pc = .ok (.iadd, 1))  (k : gj_G E R M A X Z (pc + 1) L (.int (x + y) :: st) w n0 k0) : gj_G E R M A X Z pc L (.int y :: .int x :: st) w n0 k0 :=
  fun p l e s m args below meth c H locs ls hC hX hP hS hL => lv_iadd hC.1.1 hC.1.2.1 hd (k p l e s m args below meth c H locs ls hC hX hP hS hL)
theorem gj_isub {x y : Int32} (hd : decode M.2.1 pc = .ok (.isub, 1))  (k : gj_G E R M A X Z (pc + 1) L (.int (x - y) :: st) w n0 k0) : gj_G E R M A X Z pc L (.int y :: .int x :: st) w n0 k0 :=
  fun p l e s m args below meth c H locs ls hC hX hP hS hL => lv_isub hC.1.1 hC.1.2.1 hd (k p l e s m args below meth c H locs ls hC hX hP hS hL)
theorem gj_iand {x y : Int32} (hd : decode M.2.1 pc = .ok (.iand, 1))  (k : gj_G E R M A X Z (pc + 1) L (.int (x &&& y) :: st) w n0 k0) : gj_G E R M A X Z pc L (.int y :: .int x :: st) w n0 k0 :=
  fun p l e s m args below meth c H locs ls hC hX hP hS hL => lv_iand hC.1.1 hC.1.2.1 hd (k p l e s m args below meth c H locs ls hC hX hP hS hL)
theorem gj_lshl {x : Int64} {y : Int32} (hd : decode M.2.1 pc = .ok (.lshl, 1))  (k : gj_G E R M A X Z (pc + 1) L (.long (x <<< (y.toInt64 &&& 63)) :: st) w n0 k0) : gj_G E R M A X Z pc L (.int y :: .long x :: st) w n0 k0 :=
  fun p l e s m args below meth c H locs ls hC hX hP hS hL => lv_lshl hC.1.1 hC.1.2.1 hd rfl (k p l e s m args below meth c H locs ls hC hX hP hS hL)
theorem gj_lor {x y : Int64} (hd : decode M.2.1 pc = .ok (.lor, 1))  (k : gj_G E R M A X Z (pc + 1) L (.long (x ||| y) :: st) w n0 k0) : gj_G E R M A X Z pc L (.long y :: .long x :: st) w n0 k0 :=
  fun p l e s m args below meth c H locs ls hC hX hP hS hL => lv_lor hC.1.1 hC.1.2.1 hd (k p l e s m args below meth c H locs ls hC hX hP hS hL)
theorem gj_land {x y : Int64} (hd : decode M.2.1 pc = .ok (.land, 1))  (k : gj_G E R M A X Z (pc + 1) L (.long (x &&& y) :: st) w n0 k0) : gj_G E R M A X Z pc L (.long y :: .long x :: st) w n0 k0 :=
  fun p l e s m args below meth c H locs ls hC hX hP hS hL => lv_land hC.1.1 hC.1.2.1 hd (k p l e s m args below meth c H locs ls hC hX hP hS hL)
theorem gj_i2l {x : Int32} (hd : decode M.2.1 pc = .ok (.i2l, 1))  (k : gj_G E R M A X Z (pc + 1) L (.long (x.toInt64) :: st) w n0 k0) : gj_G E R M A X Z pc L (.int x :: st) w n0 k0 :=
  fun p l e s m args below meth c H locs ls hC hX hP hS hL => lv_i2l hC.1.1 hC.1.2.1 hd rfl (k p l e s m args below meth c H locs ls hC hX hP hS hL)
theorem gj_lcmp {x y : Int64} (hd : decode M.2.1 pc = .ok (.lcmp, 1))  (k : gj_G E R M A X Z (pc + 1) L (.int (lg_cmp x y) :: st) w n0 k0) : gj_G E R M A X Z pc L (.long y :: .long x :: st) w n0 k0 :=
  fun p l e s m args below meth c H locs ls hC hX hP hS hL => W.lcmp hC.1.1 hC.1.2.1 hd (k p l e s m args below meth c H locs ls hC hX hP hS hL)
theorem gj_iconst {n : Int} {v : Int32} (hd : decode M.2.1 pc = .ok (.iconst n, 1)) (hv : Int32.ofInt n = v) (k : gj_G E R M A X Z (pc + 1) L (.int v :: st) w n0 k0) : gj_G E R M A X Z pc L (st) w n0 k0 :=
  fun p l e s m args below meth c H locs ls hC hX hP hS hL => lv_iconst hC.1.1 hC.1.2.1 hd hv (k p l e s m args below meth c H locs ls hC hX hP hS hL)
theorem gj_bipush {n : Int} {v : Int32} (hd : decode M.2.1 pc = .ok (.bipush n, 2)) (hv : (Int8.ofInt n).toInt32 = v) (k : gj_G E R M A X Z (pc + 2) L (.int v :: st) w n0 k0) : gj_G E R M A X Z pc L (st) w n0 k0 :=
  fun p l e s m args below meth c H locs ls hC hX hP hS hL => lv_bipush hC.1.1 hC.1.2.1 hd hv (k p l e s m args below meth c H locs ls hC hX hP hS hL)
theorem gj_iload_n {k : Fin 4} {i : Nat} {x : Int32} (hd : decode M.2.1 pc = .ok (.iload_n k, 1)) (hi : (k : Nat) = i) (hl : L[i]? = some (some (.int x))) (kk : gj_G E R M A X Z (pc + 1) L (.int x :: st) w n0 k0) : gj_G E R M A X Z pc L st w n0 k0 :=
  fun p l e s m args below meth c H locs ls hC hX hP hS hL => lv_iload_n hC.1.1 hC.1.2.1 hd hi (hL.2.2 i _ hl) (kk p l e s m args below meth c H locs ls hC hX hP hS hL)
theorem gj_iload {i : Nat} {x : Int32} (hd : decode M.2.1 pc = .ok (.iload i, 2)) (hl : L[i]? = some (some (.int x))) (kk : gj_G E R M A X Z (pc + 2) L (.int x :: st) w n0 k0) : gj_G E R M A X Z pc L st w n0 k0 :=
  fun p l e s m args below meth c H locs ls hC hX hP hS hL => lv_iload hC.1.1 hC.1.2.1 hd (hL.2.2 i _ hl) (kk p l e s m args below meth c H locs ls hC hX hP hS hL)
theorem gj_istore {i : Nat} {x : Int32} {L' : List (Option Value)} (hd : decode M.2.1 pc = .ok (.istore i, 2)) (hn : i < M.2.2.1) (hl : bw_s1 L i (.int x) = L') (kk : gj_G E R M A X Z (pc + 2) L' st w n0 k0) : gj_G E R M A X Z pc L (.int x :: st) w n0 k0 :=
  fun p l e s m args below meth c H locs ls hC hX hP hS hL => lv_istore hC.1.1 hC.1.2.1 hd hL.has hn rfl (fun ls2 h2 => kk p l e s m args below meth c H locs ls2 hC hX hP hS (hl ▸ bw_lr_s1 h2))
theorem gj_aload_n {k : Fin 4} {i : Nat} {x : Nat} (hd : decode M.2.1 pc = .ok (.aload_n k, 1)) (hi : (k : Nat) = i) (hl : L[i]? = some (some (.ref x))) (kk : gj_G E R M A X Z (pc + 1) L (.ref x :: st) w n0 k0) : gj_G E R M A X Z pc L st w n0 k0 :=
  fun p l e s m args below meth c H locs ls hC hX hP hS hL => lv_aload_n hC.1.1 hC.1.2.1 hd hi (hL.2.2 i _ hl) (kk p l e s m args below meth c H locs ls hC hX hP hS hL)
theorem gj_aload {i : Nat} {x : Nat} (hd : decode M.2.1 pc = .ok (.aload i, 2)) (hl : L[i]? = some (some (.ref x))) (kk : gj_G E R M A X Z (pc + 2) L (.ref x :: st) w n0 k0) : gj_G E R M A X Z pc L st w n0 k0 :=
  fun p l e s m args below meth c H locs ls hC hX hP hS hL => lv_aload hC.1.1 hC.1.2.1 hd (hL.2.2 i _ hl) (kk p l e s m args below meth c H locs ls hC hX hP hS hL)
theorem gj_astore_n {k : Fin 4} {i : Nat} {x : Nat} {L' : List (Option Value)} (hd : decode M.2.1 pc = .ok (.astore_n k, 1)) (hi : (k : Nat) = i) (hn : i < M.2.2.1) (hl : bw_s1 L i (.ref x) = L') (kk : gj_G E R M A X Z (pc + 1) L' st w n0 k0) : gj_G E R M A X Z pc L (.ref x :: st) w n0 k0 :=
  fun p l e s m args below meth c H locs ls hC hX hP hS hL => lv_astore_n hC.1.1 hC.1.2.1 hd hi hL.has hn rfl (fun ls2 h2 => kk p l e s m args below meth c H locs ls2 hC hX hP hS (hl ▸ bw_lr_s1 h2))
theorem gj_iinc {i : Nat} {n : Int} {x v : Int32} {L' : List (Option Value)} (hd : decode M.2.1 pc = .ok (.iinc i n, 3)) (hg : L[i]? = some (some (.int x))) (hv : x + Int32.ofInt n = v) (hn : i < M.2.2.1) (hl : bw_s1 L i (.int v) = L') (kk : gj_G E R M A X Z (pc + 3) L' st w n0 k0) : gj_G E R M A X Z pc L st w n0 k0 := by
  intro p l e s m args below meth c H locs ls hC hX hP hS hL
  obtain ⟨k, hk⟩ := List.getElem?_of_mem (bw_as_mem (E := E) hg)
  exact lv_iinc hC.1.1 hC.1.2.1 hd hL.has hk hv hn rfl (fun ls2 h2 => kk p l e s m args below meth c H locs ls2 hC hX hP hS (hl ▸ bw_lr_s1 (v := .int v) h2))
theorem gj_if_eq {x : Int32} {off : Int} {tgt : Nat} (hd : decode M.2.1 pc = .ok (.ifCond .eq off, 3)) (ht : (pc : Int) + off = (tgt : Int)) (kt : x = 0 → gj_G E R M A X Z tgt L st w n0 k0) (kf : ¬ (x = 0) → gj_G E R M A X Z (pc + 3) L st w n0 k0) : gj_G E R M A X Z pc L (.int x :: st) w n0 k0 :=
  fun p l e s m args below meth c H locs ls hC hX hP hS hL => lv_if_eq hC.1.1 hC.1.2.1 hd ht (fun h => kt h p l e s m args below meth c H locs ls hC hX hP hS hL) (fun h => kf h p l e s m args below meth c H locs ls hC hX hP hS hL)
theorem gj_icmp_eq {x y : Int32} {off : Int} {tgt : Nat} (hd : decode M.2.1 pc = .ok (.if_icmp .eq off, 3)) (ht : (pc : Int) + off = (tgt : Int)) (kt : x = y → gj_G E R M A X Z tgt L st w n0 k0) (kf : ¬ (x = y) → gj_G E R M A X Z (pc + 3) L st w n0 k0) : gj_G E R M A X Z pc L (.int y :: .int x :: st) w n0 k0 :=
  fun p l e s m args below meth c H locs ls hC hX hP hS hL => lv_icmp_eq hC.1.1 hC.1.2.1 hd ht (fun h => kt h p l e s m args below meth c H locs ls hC hX hP hS hL) (fun h => kf h p l e s m args below meth c H locs ls hC hX hP hS hL)
theorem gj_if_ne {x : Int32} {off : Int} {tgt : Nat} (hd : decode M.2.1 pc = .ok (.ifCond .ne off, 3)) (ht : (pc : Int) + off = (tgt : Int)) (kt : ¬ x = 0 → gj_G E R M A X Z tgt L st w n0 k0) (kf : x = 0 → gj_G E R M A X Z (pc + 3) L st w n0 k0) : gj_G E R M A X Z pc L (.int x :: st) w n0 k0 :=
  fun p l e s m args below meth c H locs ls hC hX hP hS hL => lv_if_ne hC.1.1 hC.1.2.1 hd ht (fun h => kt h p l e s m args below meth c H locs ls hC hX hP hS hL) (fun h => kf h p l e s m args below meth c H locs ls hC hX hP hS hL)
theorem gj_icmp_ne {x y : Int32} {off : Int} {tgt : Nat} (hd : decode M.2.1 pc = .ok (.if_icmp .ne off, 3)) (ht : (pc : Int) + off = (tgt : Int)) (kt : ¬ x = y → gj_G E R M A X Z tgt L st w n0 k0) (kf : x = y → gj_G E R M A X Z (pc + 3) L st w n0 k0) : gj_G E R M A X Z pc L (.int y :: .int x :: st) w n0 k0 :=
  fun p l e s m args below meth c H locs ls hC hX hP hS hL => lv_icmp_ne hC.1.1 hC.1.2.1 hd ht (fun h => kt h p l e s m args below meth c H locs ls hC hX hP hS hL) (fun h => kf h p l e s m args below meth c H locs ls hC hX hP hS hL)
theorem gj_if_lt {x : Int32} {off : Int} {tgt : Nat} (hd : decode M.2.1 pc = .ok (.ifCond .lt off, 3)) (ht : (pc : Int) + off = (tgt : Int)) (kt : x < 0 → gj_G E R M A X Z tgt L st w n0 k0) (kf : ¬ (x < 0) → gj_G E R M A X Z (pc + 3) L st w n0 k0) : gj_G E R M A X Z pc L (.int x :: st) w n0 k0 :=
  fun p l e s m args below meth c H locs ls hC hX hP hS hL => lv_if_lt hC.1.1 hC.1.2.1 hd ht (fun h => kt h p l e s m args below meth c H locs ls hC hX hP hS hL) (fun h => kf h p l e s m args below meth c H locs ls hC hX hP hS hL)
theorem gj_icmp_gt {x y : Int32} {off : Int} {tgt : Nat} (hd : decode M.2.1 pc = .ok (.if_icmp .gt off, 3)) (ht : (pc : Int) + off = (tgt : Int)) (kt : y < x → gj_G E R M A X Z tgt L st w n0 k0) (kf : ¬ (y < x) → gj_G E R M A X Z (pc + 3) L st w n0 k0) : gj_G E R M A X Z pc L (.int y :: .int x :: st) w n0 k0 :=
  fun p l e s m args below meth c H locs ls hC hX hP hS hL => lv_icmp_gt hC.1.1 hC.1.2.1 hd ht (fun h => kt h p l e s m args below meth c H locs ls hC hX hP hS hL) (fun h => kf h p l e s m args below meth c H locs ls hC hX hP hS hL)
theorem gj_icmp_le {x y : Int32} {off : Int} {tgt : Nat} (hd : decode M.2.1 pc = .ok (.if_icmp .le off, 3)) (ht : (pc : Int) + off = (tgt : Int)) (kt : x ≤ y → gj_G E R M A X Z tgt L st w n0 k0) (kf : ¬ (x ≤ y) → gj_G E R M A X Z (pc + 3) L st w n0 k0) : gj_G E R M A X Z pc L (.int y :: .int x :: st) w n0 k0 :=
  fun p l e s m args below meth c H locs ls hC hX hP hS hL => lv_icmp_le hC.1.1 hC.1.2.1 hd ht (fun h => kt h p l e s m args below meth c H locs ls hC hX hP hS hL) (fun h => kf h p l e s m args below meth c H locs ls hC hX hP hS hL)
theorem gj_goto {off : Int} {tgt : Nat} (hd : decode M.2.1 pc = .ok (.goto off, 3)) (ht : (pc : Int) + off = (tgt : Int)) (k : gj_G E R M A X Z tgt L st w n0 k0) : gj_G E R M A X Z pc L st w n0 k0 :=
  fun p l e s m args below meth c H locs ls hC hX hP hS hL => lv_goto hC.1.1 hC.1.2.1 hd ht (k p l e s m args below meth c H locs ls hC hX hP hS hL)
theorem gj_tableIn {dflt lo hi : Int} {offs : Array Int} {len : Nat} {x : Int32} {off : Int} {tgt : Nat} (hd : decode M.2.1 pc = .ok (.tableswitch dflt lo hi offs, len)) (h1 : ¬ x.toInt < lo) (h2 : ¬ hi < x.toInt) (ho : offs[(x.toInt - lo).toNat]? = some off) (ht : (pc : Int) + off = (tgt : Int)) (k : gj_G E R M A X Z tgt L st w n0 k0) : gj_G E R M A X Z pc L (.int x :: st) w n0 k0 :=
  fun p l e s m args below meth c H locs ls hC hX hP hS hL => lv_tableIn hC.1.1 hC.1.2.1 hd h1 h2 ho ht (k p l e s m args below meth c H locs ls hC hX hP hS hL)
theorem gj_tableOut {dflt lo hi : Int} {offs : Array Int} {len : Nat} {x : Int32} {tgt : Nat} (hd : decode M.2.1 pc = .ok (.tableswitch dflt lo hi offs, len)) (h : x.toInt < lo ∨ hi < x.toInt) (ht : (pc : Int) + dflt = (tgt : Int)) (k : gj_G E R M A X Z tgt L st w n0 k0) : gj_G E R M A X Z pc L (.int x :: st) w n0 k0 :=
  fun p l e s m args below meth c H locs ls hC hX hP hS hL => lv_tableOut hC.1.1 hC.1.2.1 hd h ht (k p l e s m args below meth c H locs ls hC hX hP hS hL)
theorem gj_ldc2 {index : Nat} {v : Int64} (hc : Cond.constantLong M.1.cls index v ∈ bw_tbl) (hd : decode M.2.1 pc = .ok (.ldc2_w index, 3)) (k : gj_G E R M A X Z (pc + 3) L (.long v :: st) w n0 k0) : gj_G E R M A X Z pc L st w n0 k0 :=
  fun p l e s m args below meth c H locs ls hC hX hP hS hL => lv_ldc2 hC.1.1 hC.1.2.1 hC.1.2.2.2.2.1 (hC.1.2.2.2.2.2.1 _ hc) hd (k p l e s m args below meth c H locs ls hC hX hP hS hL)
theorem gj_laload {c n x : Nat} {i : Int32} (hs : bw_sh c = (2, n, x)) (hi : vp_in i n) (hd : decode M.2.1 pc = .ok (.laload, 1)) (kk : gj_G E R M A X Z (pc + 1) L (.long (gw_l w c i.toNatClampNeg) :: st) w n0 k0) : gj_G E R M A X Z pc L (.int i :: .ref c :: st) w n0 k0 :=
  fun p l e s m args below meth cd H locs ls hC hX hP hS hL => va_lald hC.1.1 hC.1.2.1 hC.1.2.2.2.2.2.2.2.1 hP c 1 (bw_arrl hs) rfl hi hd (kk p l e s m args below meth cd H locs ls hC hX hP hS hL)
theorem gj_lastore {c n x : Nat} {i : Int32} {v : Int64} (hs : bw_sh c = (2, n, x)) (hi : vp_in i n) (hd : decode M.2.1 pc = .ok (.lastore, 1)) (kk : gj_G E R M A X Z (pc + 1) L st (sw_l w c i.toNatClampNeg v) n0 k0) : gj_G E R M A X Z pc L (.long v :: .int i :: .ref c :: st) w n0 k0 := by
  intro p l e s m args below meth cd H locs ls hC hX hP hS hL
  refine va_last hC.1.1 hC.1.2.1 hC.1.2.2.2.2.2.2.2.1 hP (gj_D hC.2.1 hC.1.2.2.2.2.2.2.2.2.1 w) hS c 1 (bw_arrl hs) rfl hi hd (fun H1 locs1 hP1 hD1 hS1 => ?_)
  refine kk p l e s m args below meth cd H1 locs1 ls hC hX ?_ hS1 hL
  rw [bw_ws_set (w' := sw_l w c i.toNatClampNeg v) (bw_lt hs (by decide)) ?_ ?_] at hP1
  · exact hP1
  · rw [hs]
    simp only [bw_ce, sw_l, cw_l, if_true]
    rfl
  · intro j hj
    simp only [sw_l, cw_l, if_neg hj, and_self]
theorem gj_weak {L' : List (Option Value)} (hl : ∀ (i : Nat) (v : Value), L'[i]? = some (some v) → L[i]? = some (some v)) (h : gj_G E R M A X Z pc L' st w n0 k0) : gj_G E R M A X Z pc L st w n0 k0 :=
  fun p l e s m args below meth c H locs ls hC hX hP hS hL => h p l e s m args below meth c H locs ls hC hX hP hS ⟨hL.1, hL.2.1, fun i v hv => hL.2.2 i v (hl i v hv)⟩
theorem gj_widen {n1 k1 : Nat} (h1 : n0 ≤ n1) (h2 : k0 ≤ k1) (h : gj_G E R M A X Z pc L st w n1 k1) : gj_G E R M A X Z pc L st w n0 k0 :=
  fun p l e s m args below meth c H locs ls hC hX hP hS hL => W.widen h1 h2 (h p l e s m args below meth c H locs ls hC hX hP hS hL)
theorem gj_S {s t T' : State} {st₀ : State} {H : Heap} {locs L' : List Loc} (hA : ∀ q, bw_A E q → A q) (hS : va_S A s.heap H locs) (h0 : st₀.heap = H) (hL' : ∀ q ∈ L', bw_A E q.base) (e1 : T'.heap = t.heap) (hF : va_F (bw_A E) st₀ t) : va_S A s.heap T'.heap (locs ++ L') := by
  obtain ⟨hz, hk⟩ := hF
  rw [h0] at hz hk
  refine ⟨Nat.le_trans hS.1 (by rw [e1]; exact hz), fun q h1 h2 => ?_, fun q hq => ?_⟩
  · rw [e1, hk q (Nat.lt_of_lt_of_le h1 hS.1) (fun z => h2 (hA q z))]
    exact hS.2.1 q h1 h2
  · rcases List.mem_append.mp hq with h | h
    · exact hS.2.2 q h
    · exact hA _ (hL' q h)
theorem gj_back {p : Program} {l : Launch} {e : Env} {s : State} {m : MethodId} {args : Array Value} {below : List Frame} {meth : Method} {c : Code} {H : Heap} {locs : List Loc} {ls : Array Slot} {st0 : List Value} {Q' : Option Value → bw_W → Prop} {aa : Array Value} {mc ms : Nat} (hC : gj_C E M A p s m args meth c) (hX : X l s args c) (hS : va_S A s.heap H locs) (hL : bw_lr E L ls M.2.2.1)
    (hr : va_Run p l e R s m args below meth c H locs n0 k0 mc ms (F0 m pc ls st0) (st.map (bw_v E)) (bw_Q E Q' aa) (bw_A E)) (kk : ∀ r w', Q' r w' → gj_G E R M A X Z (pc + 3) L (r.toList ++ st) w' (n0 + mc) (k0 + ms)) :
    W p l e R s m args below meth c H locs n0 k0 (Z below args s) (F0 m pc ls st0) := by
  intro T hT X9
  obtain ⟨v, st₀, t, T', L', h0, X', hL', e1, e2, ⟨⟨r, w', hv, hq, hP'⟩, hF⟩, go⟩ := hr T hT X9
  have hv' : v = r.map (bw_v E) := by
    injection hv
  subst hv'
  have hS' : va_S A s.heap T'.heap (locs ++ L') := gj_S hC.2.1 hS h0 hL' e1 hF
  obtain ⟨t2, a1, b1⟩ := kk r w' hq p l e s m args below meth c T'.heap (locs ++ L') ls hC hX (by rw [e1]; exact hP') hS' hL T' rfl X'
  refine ⟨t2, go t2 ?_, b1⟩
  have : (r.toList ++ st).map (bw_v E) = (r.map (bw_v E)).toList ++ st.map (bw_v E) := by cases r <;> rfl
  rw [this] at a1
  exact a1
theorem gj_recv {s : State} {H : Heap} {b ci nf : Nat} {C : String} (hK : va_K (E.2.1, E.2.2.1) bw_cls (bw_ty E) s) (hP : va_P (E.2.1, E.2.2.1) bw_cls (bw_ws E w) H) (hs : bw_sh b = (0, ci, nf)) (hcl : (bw_cls[ci]?).map (fun q => q.1) = some C) : ∃ cellB : Cell, H[E.1 b]? = some cellB ∧ cellB.vm.isStatics = false ∧ s.vm.findClass C = some cellB.cls := by
  cases hq : bw_cls[ci]? with
  | none => rw [hq] at hcl; cases hcl
  | some q =>
    rw [hq] at hcl
    have hcl : q.1 = C := Option.some.inj hcl
    rw [← hcl]
    exact va_recv hK hP hq (bw_obj hs)
theorem gj_callV {d idx n b ci nf : Nat} {As st0 : List Value} {M' : bw_M} {Q' : Option Value → bw_W → Prop} (hc : bw_cv M.1.cls idx n M') (hs : bw_sh b = (0, ci, nf)) (hcl : (bw_cls[ci]?).map (fun q => q.1) = some M'.1.cls) (hr : bw_run E d M' (.ref b :: As) w Q') (hn : As.length = n) (hst : st0 = As.reverse ++ .ref b :: st) (hw : (st.map fun v => v.category).sum ≤ 8) (hR : (d + 1 ≤ R.frames ∧ 40 * (d + 1) ≤ R.locals) ∧ n0 ≤ R.cells ∧ k0 ≤ R.slots) (hd : decode M.2.1 pc = .ok (.invokevirtual idx, 3)) (kk : ∀ r w', Q' r w' → gj_G E R M A X Z (pc + 3) L (r.toList ++ st) w' n0 k0) : gj_G E R M A X Z pc L st0 w n0 k0 := by
  intro p l e s m args below meth c H locs ls hC hX hP hS hL
  obtain ⟨c1, c2, c3, c4, c5, c6, c7⟩ := hc
  have ht := hC.1.2.2.2.2.2.1
  have hrv := gj_recv hC.1.2.2.2.2.2.2.2.1 hP hs hcl
  subst hst
  have := va_runV (p := p) (l := l) (e := e) (below := below) (meth := meth) (R := R) (As := As.map (bw_v E)) (rest := st.map (bw_v E)) (g := F0 m pc ls ((As.reverse ++ .ref b :: st).map (bw_v E))) (cells := n0) (slots := k0) (locs := locs) (S := ⟨hC.1.1, hC.1.2.1, hC.1.2.2.1, hC.1.2.2.2.2.1, ht⟩) (hr l) (C := M'.1.cls) (index := idx) (n := n) (bytes := M'.2.1) (maxL := M'.2.2.1) (ret := M'.2.2.2) (b := E.1 b) (H := H)
    ⟨callB_of n ht (bw_gw c5) rfl rfl rfl (ht _ c4) (ht _ c1) c6 ⟨hR.1.1, by show 8 + (M'.2.2.1 + 11) + 40 * d ≤ R.locals; have := hR.1.2; omega⟩, ht _ c2, ht _ c3⟩
    ⟨bw_blind E _ w, hrv, gj_pre (.ref b :: As) hC hP hS⟩ rfl (by rw [List.length_map]; exact hn) hL.1 (by simp [bw_v]) (by rw [bk_cat]; simpa [JFrame.monitorRoom] using hw) hd ⟨hR.2.1, hR.2.2⟩
  exact gj_back (st := st) (Q' := Q') hC hX hS hL this kk
end BGR
