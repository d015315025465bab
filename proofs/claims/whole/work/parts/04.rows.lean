section BWR
variable {E : bw_E} {d : Nat} {M : bw_M} {pc : Nat} {L : List (Option Value)} {st : List Value} {w : bw_W} {Q : Option Value → bw_W → Prop}

theorem bw_iadd {x y : Int32} (hd : decode M.2.1 pc = .ok (.iadd, 1))  (k : bw_G E d M (pc + 1) L (.int (x + y) :: st) w Q) : bw_G E d M pc L (.int y :: .int x :: st) w Q :=
  fun p l e s m args below meth c H locs ls hC hP hS hL => lv_iadd hC.1 hC.2.1 hd (k p l e s m args below meth c H locs ls hC hP hS hL)
theorem bw_isub {x y : Int32} (hd : decode M.2.1 pc = .ok (.isub, 1))  (k : bw_G E d M (pc + 1) L (.int (x - y) :: st) w Q) : bw_G E d M pc L (.int y :: .int x :: st) w Q :=
  fun p l e s m args below meth c H locs ls hC hP hS hL => lv_isub hC.1 hC.2.1 hd (k p l e s m args below meth c H locs ls hC hP hS hL)
theorem bw_imul {x y : Int32} (hd : decode M.2.1 pc = .ok (.imul, 1))  (k : bw_G E d M (pc + 1) L (.int (x * y) :: st) w Q) : bw_G E d M pc L (.int y :: .int x :: st) w Q :=
  fun p l e s m args below meth c H locs ls hC hP hS hL => lv_imul hC.1 hC.2.1 hd (k p l e s m args below meth c H locs ls hC hP hS hL)
theorem bw_iand {x y : Int32} (hd : decode M.2.1 pc = .ok (.iand, 1))  (k : bw_G E d M (pc + 1) L (.int (x &&& y) :: st) w Q) : bw_G E d M pc L (.int y :: .int x :: st) w Q :=
  fun p l e s m args below meth c H locs ls hC hP hS hL => lv_iand hC.1 hC.2.1 hd (k p l e s m args below meth c H locs ls hC hP hS hL)
theorem bw_ior {x y : Int32} (hd : decode M.2.1 pc = .ok (.ior, 1))  (k : bw_G E d M (pc + 1) L (.int (x ||| y) :: st) w Q) : bw_G E d M pc L (.int y :: .int x :: st) w Q :=
  fun p l e s m args below meth c H locs ls hC hP hS hL => lv_ior hC.1 hC.2.1 hd (k p l e s m args below meth c H locs ls hC hP hS hL)
theorem bw_ishl {x y : Int32} (hd : decode M.2.1 pc = .ok (.ishl, 1))  (k : bw_G E d M (pc + 1) L (.int (x <<< (y &&& 31)) :: st) w Q) : bw_G E d M pc L (.int y :: .int x :: st) w Q :=
  fun p l e s m args below meth c H locs ls hC hP hS hL => lv_ishl hC.1 hC.2.1 hd (k p l e s m args below meth c H locs ls hC hP hS hL)
theorem bw_ishr {x y : Int32} (hd : decode M.2.1 pc = .ok (.ishr, 1))  (k : bw_G E d M (pc + 1) L (.int (x >>> (y &&& 31)) :: st) w Q) : bw_G E d M pc L (.int y :: .int x :: st) w Q :=
  fun p l e s m args below meth c H locs ls hC hP hS hL => lv_ishr hC.1 hC.2.1 hd (k p l e s m args below meth c H locs ls hC hP hS hL)
theorem bw_idiv {x y : Int32} (hd : decode M.2.1 pc = .ok (.idiv, 1)) (hne : ¬ y = 0) (k : bw_G E d M (pc + 1) L (.int (x / y) :: st) w Q) : bw_G E d M pc L (.int y :: .int x :: st) w Q :=
  fun p l e s m args below meth c H locs ls hC hP hS hL => lv_idiv hC.1 hC.2.1 hd hne (k p l e s m args below meth c H locs ls hC hP hS hL)
theorem bw_irem {x y : Int32} (hd : decode M.2.1 pc = .ok (.irem, 1)) (hne : ¬ y = 0) (k : bw_G E d M (pc + 1) L (.int (x - x / y * y) :: st) w Q) : bw_G E d M pc L (.int y :: .int x :: st) w Q :=
  fun p l e s m args below meth c H locs ls hC hP hS hL => lv_irem hC.1 hC.2.1 hd hne (k p l e s m args below meth c H locs ls hC hP hS hL)
theorem bw_iushr {x y : Int32} (hd : decode M.2.1 pc = .ok (.iushr, 1))  (k : bw_G E d M (pc + 1) L (.int ((x.toUInt32 >>> (y.toUInt32 &&& Int32.toUInt32 31)).toInt32) :: st) w Q) : bw_G E d M pc L (.int y :: .int x :: st) w Q :=
  fun p l e s m args below meth c H locs ls hC hP hS hL => lv_iushr hC.1 hC.2.1 hd rfl (k p l e s m args below meth c H locs ls hC hP hS hL)
theorem bw_ladd {x y : Int64} (hd : decode M.2.1 pc = .ok (.ladd, 1))  (k : bw_G E d M (pc + 1) L (.long (x + y) :: st) w Q) : bw_G E d M pc L (.long y :: .long x :: st) w Q :=
  fun p l e s m args below meth c H locs ls hC hP hS hL => lv_ladd hC.1 hC.2.1 hd (k p l e s m args below meth c H locs ls hC hP hS hL)
theorem bw_lsub {x y : Int64} (hd : decode M.2.1 pc = .ok (.lsub, 1))  (k : bw_G E d M (pc + 1) L (.long (x - y) :: st) w Q) : bw_G E d M pc L (.long y :: .long x :: st) w Q :=
  fun p l e s m args below meth c H locs ls hC hP hS hL => lv_lsub hC.1 hC.2.1 hd (k p l e s m args below meth c H locs ls hC hP hS hL)
theorem bw_lmul {x y : Int64} (hd : decode M.2.1 pc = .ok (.lmul, 1))  (k : bw_G E d M (pc + 1) L (.long (x * y) :: st) w Q) : bw_G E d M pc L (.long y :: .long x :: st) w Q :=
  fun p l e s m args below meth c H locs ls hC hP hS hL => lv_lmul hC.1 hC.2.1 hd (k p l e s m args below meth c H locs ls hC hP hS hL)
theorem bw_land {x y : Int64} (hd : decode M.2.1 pc = .ok (.land, 1))  (k : bw_G E d M (pc + 1) L (.long (x &&& y) :: st) w Q) : bw_G E d M pc L (.long y :: .long x :: st) w Q :=
  fun p l e s m args below meth c H locs ls hC hP hS hL => lv_land hC.1 hC.2.1 hd (k p l e s m args below meth c H locs ls hC hP hS hL)
theorem bw_lor {x y : Int64} (hd : decode M.2.1 pc = .ok (.lor, 1))  (k : bw_G E d M (pc + 1) L (.long (x ||| y) :: st) w Q) : bw_G E d M pc L (.long y :: .long x :: st) w Q :=
  fun p l e s m args below meth c H locs ls hC hP hS hL => lv_lor hC.1 hC.2.1 hd (k p l e s m args below meth c H locs ls hC hP hS hL)
theorem bw_ldiv {x y : Int64} (hd : decode M.2.1 pc = .ok (.ldiv, 1)) (hne : ¬ y = 0) (k : bw_G E d M (pc + 1) L (.long (x / y) :: st) w Q) : bw_G E d M pc L (.long y :: .long x :: st) w Q :=
  fun p l e s m args below meth c H locs ls hC hP hS hL => lv_ldiv hC.1 hC.2.1 hd hne (k p l e s m args below meth c H locs ls hC hP hS hL)
theorem bw_lrem {x y : Int64} (hd : decode M.2.1 pc = .ok (.lrem, 1)) (hne : ¬ y = 0) (k : bw_G E d M (pc + 1) L (.long (x - x / y * y) :: st) w Q) : bw_G E d M pc L (.long y :: .long x :: st) w Q :=
  fun p l e s m args below meth c H locs ls hC hP hS hL => lv_lrem hC.1 hC.2.1 hd hne (k p l e s m args below meth c H locs ls hC hP hS hL)
theorem bw_lshl {x : Int64} {y : Int32} (hd : decode M.2.1 pc = .ok (.lshl, 1))  (k : bw_G E d M (pc + 1) L (.long (x <<< (y.toInt64 &&& 63)) :: st) w Q) : bw_G E d M pc L (.int y :: .long x :: st) w Q :=
  fun p l e s m args below meth c H locs ls hC hP hS hL => lv_lshl hC.1 hC.2.1 hd rfl (k p l e s m args below meth c H locs ls hC hP hS hL)
theorem bw_lushr {x : Int64} {y : Int32} (hd : decode M.2.1 pc = .ok (.lushr, 1))  (k : bw_G E d M (pc + 1) L (.long ((x.toUInt64 >>> (y.toInt64.toUInt64 &&& Int64.toUInt64 63)).toInt64) :: st) w Q) : bw_G E d M pc L (.int y :: .long x :: st) w Q :=
  fun p l e s m args below meth c H locs ls hC hP hS hL => lv_lushr hC.1 hC.2.1 hd rfl (k p l e s m args below meth c H locs ls hC hP hS hL)
theorem bw_i2l {x : Int32} (hd : decode M.2.1 pc = .ok (.i2l, 1))  (k : bw_G E d M (pc + 1) L (.long (x.toInt64) :: st) w Q) : bw_G E d M pc L (.int x :: st) w Q :=
  fun p l e s m args below meth c H locs ls hC hP hS hL => lv_i2l hC.1 hC.2.1 hd rfl (k p l e s m args below meth c H locs ls hC hP hS hL)
theorem bw_l2i {x : Int64} (hd : decode M.2.1 pc = .ok (.l2i, 1))  (k : bw_G E d M (pc + 1) L (.int (x.toInt32) :: st) w Q) : bw_G E d M pc L (.long x :: st) w Q :=
  fun p l e s m args below meth c H locs ls hC hP hS hL => lv_l2i hC.1 hC.2.1 hd rfl (k p l e s m args below meth c H locs ls hC hP hS hL)
theorem bw_i2c {x : Int32} (hd : decode M.2.1 pc = .ok (.i2c, 1))  (k : bw_G E d M (pc + 1) L (.int ((x.toUInt32 % 65536).toInt32) :: st) w Q) : bw_G E d M pc L (.int x :: st) w Q :=
  fun p l e s m args below meth c H locs ls hC hP hS hL => lv_i2c hC.1 hC.2.1 hd rfl (k p l e s m args below meth c H locs ls hC hP hS hL)
theorem bw_lcmp {x y : Int64} (hd : decode M.2.1 pc = .ok (.lcmp, 1))  (k : bw_G E d M (pc + 1) L (.int (lg_cmp x y) :: st) w Q) : bw_G E d M pc L (.long y :: .long x :: st) w Q :=
  fun p l e s m args below meth c H locs ls hC hP hS hL => W.lcmp hC.1 hC.2.1 hd (k p l e s m args below meth c H locs ls hC hP hS hL)
theorem bw_iconst {n : Int} {v : Int32} (hd : decode M.2.1 pc = .ok (.iconst n, 1)) (hv : Int32.ofInt n = v) (k : bw_G E d M (pc + 1) L (.int v :: st) w Q) : bw_G E d M pc L (st) w Q :=
  fun p l e s m args below meth c H locs ls hC hP hS hL => lv_iconst hC.1 hC.2.1 hd hv (k p l e s m args below meth c H locs ls hC hP hS hL)
theorem bw_bipush {n : Int} {v : Int32} (hd : decode M.2.1 pc = .ok (.bipush n, 2)) (hv : (Int8.ofInt n).toInt32 = v) (k : bw_G E d M (pc + 2) L (.int v :: st) w Q) : bw_G E d M pc L (st) w Q :=
  fun p l e s m args below meth c H locs ls hC hP hS hL => lv_bipush hC.1 hC.2.1 hd hv (k p l e s m args below meth c H locs ls hC hP hS hL)
theorem bw_sipush {n : Int} {v : Int32} (hd : decode M.2.1 pc = .ok (.sipush n, 3)) (hv : (Int16.ofInt n).toInt32 = v) (k : bw_G E d M (pc + 3) L (.int v :: st) w Q) : bw_G E d M pc L (st) w Q :=
  fun p l e s m args below meth c H locs ls hC hP hS hL => lv_sipush hC.1 hC.2.1 hd hv (k p l e s m args below meth c H locs ls hC hP hS hL)
theorem bw_lconst {n : Fin 2} {v : Int64} (hd : decode M.2.1 pc = .ok (.lconst n, 1)) (hv : Int64.ofNat (n : Nat) = v) (k : bw_G E d M (pc + 1) L (.long v :: st) w Q) : bw_G E d M pc L (st) w Q :=
  fun p l e s m args below meth c H locs ls hC hP hS hL => lv_lconst hC.1 hC.2.1 hd hv (k p l e s m args below meth c H locs ls hC hP hS hL)
theorem bw_iload_n {k : Fin 4} {i : Nat} {x : Int32} (hd : decode M.2.1 pc = .ok (.iload_n k, 1)) (hi : (k : Nat) = i) (hl : L[i]? = some (some (.int x))) (kk : bw_G E d M (pc + 1) L (.int x :: st) w Q) : bw_G E d M pc L st w Q :=
  fun p l e s m args below meth c H locs ls hC hP hS hL => lv_iload_n hC.1 hC.2.1 hd hi (hL.2.2 i _ hl) (kk p l e s m args below meth c H locs ls hC hP hS hL)
theorem bw_iload {i : Nat} {x : Int32} (hd : decode M.2.1 pc = .ok (.iload i, 2)) (hl : L[i]? = some (some (.int x))) (kk : bw_G E d M (pc + 2) L (.int x :: st) w Q) : bw_G E d M pc L st w Q :=
  fun p l e s m args below meth c H locs ls hC hP hS hL => lv_iload hC.1 hC.2.1 hd (hL.2.2 i _ hl) (kk p l e s m args below meth c H locs ls hC hP hS hL)
theorem bw_istore_n {k : Fin 4} {i : Nat} {x : Int32} {L' : List (Option Value)} (hd : decode M.2.1 pc = .ok (.istore_n k, 1)) (hi : (k : Nat) = i) (hn : i < M.2.2.1) (hl : bw_s1 L i (.int x) = L') (kk : bw_G E d M (pc + 1) L' st w Q) : bw_G E d M pc L (.int x :: st) w Q :=
  fun p l e s m args below meth c H locs ls hC hP hS hL => lv_istore_n hC.1 hC.2.1 hd hi hL.has hn rfl (fun ls2 h2 => kk p l e s m args below meth c H locs ls2 hC hP hS (hl ▸ bw_lr_s1 h2))
theorem bw_istore {i : Nat} {x : Int32} {L' : List (Option Value)} (hd : decode M.2.1 pc = .ok (.istore i, 2)) (hn : i < M.2.2.1) (hl : bw_s1 L i (.int x) = L') (kk : bw_G E d M (pc + 2) L' st w Q) : bw_G E d M pc L (.int x :: st) w Q :=
  fun p l e s m args below meth c H locs ls hC hP hS hL => lv_istore hC.1 hC.2.1 hd hL.has hn rfl (fun ls2 h2 => kk p l e s m args below meth c H locs ls2 hC hP hS (hl ▸ bw_lr_s1 h2))
theorem bw_lload_n {k : Fin 4} {i : Nat} {x : Int64} (hd : decode M.2.1 pc = .ok (.lload_n k, 1)) (hi : (k : Nat) = i) (hl : L[i]? = some (some (.long x))) (kk : bw_G E d M (pc + 1) L (.long x :: st) w Q) : bw_G E d M pc L st w Q :=
  fun p l e s m args below meth c H locs ls hC hP hS hL => lv_lload_n hC.1 hC.2.1 hd hi (hL.2.2 i _ hl) (kk p l e s m args below meth c H locs ls hC hP hS hL)
theorem bw_lload {i : Nat} {x : Int64} (hd : decode M.2.1 pc = .ok (.lload i, 2)) (hl : L[i]? = some (some (.long x))) (kk : bw_G E d M (pc + 2) L (.long x :: st) w Q) : bw_G E d M pc L st w Q :=
  fun p l e s m args below meth c H locs ls hC hP hS hL => lv_lload hC.1 hC.2.1 hd (hL.2.2 i _ hl) (kk p l e s m args below meth c H locs ls hC hP hS hL)
theorem bw_lstore_n {k : Fin 4} {i : Nat} {x : Int64} {L' : List (Option Value)} (hd : decode M.2.1 pc = .ok (.lstore_n k, 1)) (hi : (k : Nat) = i) (hn : i + 1 < M.2.2.1) (hl : bw_s2 L i (.long x) = L') (kk : bw_G E d M (pc + 1) L' st w Q) : bw_G E d M pc L (.long x :: st) w Q :=
  fun p l e s m args below meth c H locs ls hC hP hS hL => lv_lstore_n hC.1 hC.2.1 hd hi hL.has hn rfl (fun ls2 h2 => kk p l e s m args below meth c H locs ls2 hC hP hS (hl ▸ bw_lr_s2 h2))
theorem bw_lstore {i : Nat} {x : Int64} {L' : List (Option Value)} (hd : decode M.2.1 pc = .ok (.lstore i, 2)) (hn : i + 1 < M.2.2.1) (hl : bw_s2 L i (.long x) = L') (kk : bw_G E d M (pc + 2) L' st w Q) : bw_G E d M pc L (.long x :: st) w Q :=
  fun p l e s m args below meth c H locs ls hC hP hS hL => lv_lstore hC.1 hC.2.1 hd hL.has hn rfl (fun ls2 h2 => kk p l e s m args below meth c H locs ls2 hC hP hS (hl ▸ bw_lr_s2 h2))
theorem bw_aload_n {k : Fin 4} {i : Nat} {x : Nat} (hd : decode M.2.1 pc = .ok (.aload_n k, 1)) (hi : (k : Nat) = i) (hl : L[i]? = some (some (.ref x))) (kk : bw_G E d M (pc + 1) L (.ref x :: st) w Q) : bw_G E d M pc L st w Q :=
  fun p l e s m args below meth c H locs ls hC hP hS hL => lv_aload_n hC.1 hC.2.1 hd hi (hL.2.2 i _ hl) (kk p l e s m args below meth c H locs ls hC hP hS hL)
theorem bw_aload {i : Nat} {x : Nat} (hd : decode M.2.1 pc = .ok (.aload i, 2)) (hl : L[i]? = some (some (.ref x))) (kk : bw_G E d M (pc + 2) L (.ref x :: st) w Q) : bw_G E d M pc L st w Q :=
  fun p l e s m args below meth c H locs ls hC hP hS hL => lv_aload hC.1 hC.2.1 hd (hL.2.2 i _ hl) (kk p l e s m args below meth c H locs ls hC hP hS hL)
theorem bw_astore_n {k : Fin 4} {i : Nat} {x : Nat} {L' : List (Option Value)} (hd : decode M.2.1 pc = .ok (.astore_n k, 1)) (hi : (k : Nat) = i) (hn : i < M.2.2.1) (hl : bw_s1 L i (.ref x) = L') (kk : bw_G E d M (pc + 1) L' st w Q) : bw_G E d M pc L (.ref x :: st) w Q :=
  fun p l e s m args below meth c H locs ls hC hP hS hL => lv_astore_n hC.1 hC.2.1 hd hi hL.has hn rfl (fun ls2 h2 => kk p l e s m args below meth c H locs ls2 hC hP hS (hl ▸ bw_lr_s1 h2))
theorem bw_astore {i : Nat} {x : Nat} {L' : List (Option Value)} (hd : decode M.2.1 pc = .ok (.astore i, 2)) (hn : i < M.2.2.1) (hl : bw_s1 L i (.ref x) = L') (kk : bw_G E d M (pc + 2) L' st w Q) : bw_G E d M pc L (.ref x :: st) w Q :=
  fun p l e s m args below meth c H locs ls hC hP hS hL => lv_astore hC.1 hC.2.1 hd hL.has hn rfl (fun ls2 h2 => kk p l e s m args below meth c H locs ls2 hC hP hS (hl ▸ bw_lr_s1 h2))
theorem bw_iinc {i : Nat} {n : Int} {x v : Int32} {L' : List (Option Value)} (hd : decode M.2.1 pc = .ok (.iinc i n, 3)) (hg : L[i]? = some (some (.int x))) (hv : x + Int32.ofInt n = v) (hn : i < M.2.2.1) (hl : bw_s1 L i (.int v) = L') (kk : bw_G E d M (pc + 3) L' st w Q) : bw_G E d M pc L st w Q := by
  intro p l e s m args below meth c H locs ls hC hP hS hL
  obtain ⟨k, hk⟩ := List.getElem?_of_mem (bw_as_mem (E := E) hg)
  exact lv_iinc hC.1 hC.2.1 hd hL.has hk hv hn rfl (fun ls2 h2 => kk p l e s m args below meth c H locs ls2 hC hP hS (hl ▸ bw_lr_s1 (v := .int v) h2))
theorem bw_if_eq {x : Int32} {off : Int} {tgt : Nat} (hd : decode M.2.1 pc = .ok (.ifCond .eq off, 3)) (ht : (pc : Int) + off = (tgt : Int)) (kt : x = 0 → bw_G E d M tgt L st w Q) (kf : ¬ (x = 0) → bw_G E d M (pc + 3) L st w Q) : bw_G E d M pc L (.int x :: st) w Q :=
  fun p l e s m args below meth c H locs ls hC hP hS hL => lv_if_eq hC.1 hC.2.1 hd ht (fun h => kt h p l e s m args below meth c H locs ls hC hP hS hL) (fun h => kf h p l e s m args below meth c H locs ls hC hP hS hL)
theorem bw_icmp_eq {x y : Int32} {off : Int} {tgt : Nat} (hd : decode M.2.1 pc = .ok (.if_icmp .eq off, 3)) (ht : (pc : Int) + off = (tgt : Int)) (kt : x = y → bw_G E d M tgt L st w Q) (kf : ¬ (x = y) → bw_G E d M (pc + 3) L st w Q) : bw_G E d M pc L (.int y :: .int x :: st) w Q :=
  fun p l e s m args below meth c H locs ls hC hP hS hL => lv_icmp_eq hC.1 hC.2.1 hd ht (fun h => kt h p l e s m args below meth c H locs ls hC hP hS hL) (fun h => kf h p l e s m args below meth c H locs ls hC hP hS hL)
theorem bw_if_ne {x : Int32} {off : Int} {tgt : Nat} (hd : decode M.2.1 pc = .ok (.ifCond .ne off, 3)) (ht : (pc : Int) + off = (tgt : Int)) (kt : ¬ x = 0 → bw_G E d M tgt L st w Q) (kf : x = 0 → bw_G E d M (pc + 3) L st w Q) : bw_G E d M pc L (.int x :: st) w Q :=
  fun p l e s m args below meth c H locs ls hC hP hS hL => lv_if_ne hC.1 hC.2.1 hd ht (fun h => kt h p l e s m args below meth c H locs ls hC hP hS hL) (fun h => kf h p l e s m args below meth c H locs ls hC hP hS hL)
theorem bw_icmp_ne {x y : Int32} {off : Int} {tgt : Nat} (hd : decode M.2.1 pc = .ok (.if_icmp .ne off, 3)) (ht : (pc : Int) + off = (tgt : Int)) (kt : ¬ x = y → bw_G E d M tgt L st w Q) (kf : x = y → bw_G E d M (pc + 3) L st w Q) : bw_G E d M pc L (.int y :: .int x :: st) w Q :=
  fun p l e s m args below meth c H locs ls hC hP hS hL => lv_icmp_ne hC.1 hC.2.1 hd ht (fun h => kt h p l e s m args below meth c H locs ls hC hP hS hL) (fun h => kf h p l e s m args below meth c H locs ls hC hP hS hL)
theorem bw_if_lt {x : Int32} {off : Int} {tgt : Nat} (hd : decode M.2.1 pc = .ok (.ifCond .lt off, 3)) (ht : (pc : Int) + off = (tgt : Int)) (kt : x < 0 → bw_G E d M tgt L st w Q) (kf : ¬ (x < 0) → bw_G E d M (pc + 3) L st w Q) : bw_G E d M pc L (.int x :: st) w Q :=
  fun p l e s m args below meth c H locs ls hC hP hS hL => lv_if_lt hC.1 hC.2.1 hd ht (fun h => kt h p l e s m args below meth c H locs ls hC hP hS hL) (fun h => kf h p l e s m args below meth c H locs ls hC hP hS hL)
theorem bw_icmp_lt {x y : Int32} {off : Int} {tgt : Nat} (hd : decode M.2.1 pc = .ok (.if_icmp .lt off, 3)) (ht : (pc : Int) + off = (tgt : Int)) (kt : x < y → bw_G E d M tgt L st w Q) (kf : ¬ (x < y) → bw_G E d M (pc + 3) L st w Q) : bw_G E d M pc L (.int y :: .int x :: st) w Q :=
  fun p l e s m args below meth c H locs ls hC hP hS hL => lv_icmp_lt hC.1 hC.2.1 hd ht (fun h => kt h p l e s m args below meth c H locs ls hC hP hS hL) (fun h => kf h p l e s m args below meth c H locs ls hC hP hS hL)
theorem bw_if_ge {x : Int32} {off : Int} {tgt : Nat} (hd : decode M.2.1 pc = .ok (.ifCond .ge off, 3)) (ht : (pc : Int) + off = (tgt : Int)) (kt : 0 ≤ x → bw_G E d M tgt L st w Q) (kf : ¬ (0 ≤ x) → bw_G E d M (pc + 3) L st w Q) : bw_G E d M pc L (.int x :: st) w Q :=
  fun p l e s m args below meth c H locs ls hC hP hS hL => lv_if_ge hC.1 hC.2.1 hd ht (fun h => kt h p l e s m args below meth c H locs ls hC hP hS hL) (fun h => kf h p l e s m args below meth c H locs ls hC hP hS hL)
theorem bw_icmp_ge {x y : Int32} {off : Int} {tgt : Nat} (hd : decode M.2.1 pc = .ok (.if_icmp .ge off, 3)) (ht : (pc : Int) + off = (tgt : Int)) (kt : y ≤ x → bw_G E d M tgt L st w Q) (kf : ¬ (y ≤ x) → bw_G E d M (pc + 3) L st w Q) : bw_G E d M pc L (.int y :: .int x :: st) w Q :=
  fun p l e s m args below meth c H locs ls hC hP hS hL => lv_icmp_ge hC.1 hC.2.1 hd ht (fun h => kt h p l e s m args below meth c H locs ls hC hP hS hL) (fun h => kf h p l e s m args below meth c H locs ls hC hP hS hL)
theorem bw_if_gt {x : Int32} {off : Int} {tgt : Nat} (hd : decode M.2.1 pc = .ok (.ifCond .gt off, 3)) (ht : (pc : Int) + off = (tgt : Int)) (kt : 0 < x → bw_G E d M tgt L st w Q) (kf : ¬ (0 < x) → bw_G E d M (pc + 3) L st w Q) : bw_G E d M pc L (.int x :: st) w Q :=
  fun p l e s m args below meth c H locs ls hC hP hS hL => lv_if_gt hC.1 hC.2.1 hd ht (fun h => kt h p l e s m args below meth c H locs ls hC hP hS hL) (fun h => kf h p l e s m args below meth c H locs ls hC hP hS hL)
theorem bw_icmp_gt {x y : Int32} {off : Int} {tgt : Nat} (hd : decode M.2.1 pc = .ok (.if_icmp .gt off, 3)) (ht : (pc : Int) + off = (tgt : Int)) (kt : y < x → bw_G E d M tgt L st w Q) (kf : ¬ (y < x) → bw_G E d M (pc + 3) L st w Q) : bw_G E d M pc L (.int y :: .int x :: st) w Q :=
  fun p l e s m args below meth c H locs ls hC hP hS hL => lv_icmp_gt hC.1 hC.2.1 hd ht (fun h => kt h p l e s m args below meth c H locs ls hC hP hS hL) (fun h => kf h p l e s m args below meth c H locs ls hC hP hS hL)
theorem bw_if_le {x : Int32} {off : Int} {tgt : Nat} (hd : decode M.2.1 pc = .ok (.ifCond .le off, 3)) (ht : (pc : Int) + off = (tgt : Int)) (kt : x ≤ 0 → bw_G E d M tgt L st w Q) (kf : ¬ (x ≤ 0) → bw_G E d M (pc + 3) L st w Q) : bw_G E d M pc L (.int x :: st) w Q :=
  fun p l e s m args below meth c H locs ls hC hP hS hL => lv_if_le hC.1 hC.2.1 hd ht (fun h => kt h p l e s m args below meth c H locs ls hC hP hS hL) (fun h => kf h p l e s m args below meth c H locs ls hC hP hS hL)
theorem bw_icmp_le {x y : Int32} {off : Int} {tgt : Nat} (hd : decode M.2.1 pc = .ok (.if_icmp .le off, 3)) (ht : (pc : Int) + off = (tgt : Int)) (kt : x ≤ y → bw_G E d M tgt L st w Q) (kf : ¬ (x ≤ y) → bw_G E d M (pc + 3) L st w Q) : bw_G E d M pc L (.int y :: .int x :: st) w Q :=
  fun p l e s m args below meth c H locs ls hC hP hS hL => lv_icmp_le hC.1 hC.2.1 hd ht (fun h => kt h p l e s m args below meth c H locs ls hC hP hS hL) (fun h => kf h p l e s m args below meth c H locs ls hC hP hS hL)
theorem bw_goto {off : Int} {tgt : Nat} (hd : decode M.2.1 pc = .ok (.goto off, 3)) (ht : (pc : Int) + off = (tgt : Int)) (k : bw_G E d M tgt L st w Q) : bw_G E d M pc L st w Q :=
  fun p l e s m args below meth c H locs ls hC hP hS hL => lv_goto hC.1 hC.2.1 hd ht (k p l e s m args below meth c H locs ls hC hP hS hL)
theorem bw_tableIn {dflt lo hi : Int} {offs : Array Int} {len : Nat} {x : Int32} {off : Int} {tgt : Nat} (hd : decode M.2.1 pc = .ok (.tableswitch dflt lo hi offs, len)) (h1 : ¬ x.toInt < lo) (h2 : ¬ hi < x.toInt) (ho : offs[(x.toInt - lo).toNat]? = some off) (ht : (pc : Int) + off = (tgt : Int)) (k : bw_G E d M tgt L st w Q) : bw_G E d M pc L (.int x :: st) w Q :=
  fun p l e s m args below meth c H locs ls hC hP hS hL => lv_tableIn hC.1 hC.2.1 hd h1 h2 ho ht (k p l e s m args below meth c H locs ls hC hP hS hL)
theorem bw_tableOut {dflt lo hi : Int} {offs : Array Int} {len : Nat} {x : Int32} {tgt : Nat} (hd : decode M.2.1 pc = .ok (.tableswitch dflt lo hi offs, len)) (h : x.toInt < lo ∨ hi < x.toInt) (ht : (pc : Int) + dflt = (tgt : Int)) (k : bw_G E d M tgt L st w Q) : bw_G E d M pc L (.int x :: st) w Q :=
  fun p l e s m args below meth c H locs ls hC hP hS hL => lv_tableOut hC.1 hC.2.1 hd h ht (k p l e s m args below meth c H locs ls hC hP hS hL)
theorem bw_lookup {dflt : Int} {ps : Array (Int × Int)} {len : Nat} {x : Int32} {off : Int} {tgt : Nat} (hd : decode M.2.1 pc = .ok (.lookupswitch dflt ps, len)) (hp : (ps.toList.zip (ps.toList.drop 1)).all (fun (a, next) => a.1 < next.1) = true) (ho : Op.lookupswitch.offset ps.toList dflt x.toInt = off) (ht : (pc : Int) + off = (tgt : Int)) (k : bw_G E d M tgt L st w Q) : bw_G E d M pc L (.int x :: st) w Q :=
  fun p l e s m args below meth c H locs ls hC hP hS hL => lv_lookup hC.1 hC.2.1 hd hp ho ht (k p l e s m args below meth c H locs ls hC hP hS hL)
theorem bw_pop {v : Value} (hd : decode M.2.1 pc = .ok (.pop, 1)) (hv : v.category = 1) (k : bw_G E d M (pc + 1) L st w Q) : bw_G E d M pc L (v :: st) w Q :=
  fun p l e s m args below meth c H locs ls hC hP hS hL => lv_pop hC.1 hC.2.1 hd ((bw_v_cat E v).trans hv) (k p l e s m args below meth c H locs ls hC hP hS hL)
theorem bw_dup {v : Value} (hd : decode M.2.1 pc = .ok (.dup, 1)) (hv : v.category = 1) (k : bw_G E d M (pc + 1) L (v :: v :: st) w Q) : bw_G E d M pc L (v :: st) w Q :=
  fun p l e s m args below meth c H locs ls hC hP hS hL => lv_dup hC.1 hC.2.1 hd ((bw_v_cat E v).trans hv) (k p l e s m args below meth c H locs ls hC hP hS hL)
theorem bw_dup2 {v u : Value} (hd : decode M.2.1 pc = .ok (.dup2, 1)) (hv : v.category = 1) (hu : u.category = 1) (k : bw_G E d M (pc + 1) L (v :: u :: v :: u :: st) w Q) : bw_G E d M pc L (v :: u :: st) w Q :=
  fun p l e s m args below meth c H locs ls hC hP hS hL => lv_dup2_11 hC.1 hC.2.1 hd ((bw_v_cat E v).trans hv) ((bw_v_cat E u).trans hu) (k p l e s m args below meth c H locs ls hC hP hS hL)

theorem bw_ldcw {index : Nat} {v : Int32} (hc : Cond.constant M.1.cls index v ∈ bw_tbl) (hd : decode M.2.1 pc = .ok (.ldc_w index, 3)) (k : bw_G E d M (pc + 3) L (.int v :: st) w Q) : bw_G E d M pc L st w Q :=
  fun p l e s m args below meth c H locs ls hC hP hS hL => lv_ldcw hC.1 hC.2.1 hC.2.2.2.2.1 (hC.2.2.2.2.2.1 _ hc) hd (k p l e s m args below meth c H locs ls hC hP hS hL)
theorem bw_ldc {index : Nat} {v : Int32} (hc : Cond.constant M.1.cls index v ∈ bw_tbl) (hd : decode M.2.1 pc = .ok (.ldc index, 2)) (k : bw_G E d M (pc + 2) L (.int v :: st) w Q) : bw_G E d M pc L st w Q :=
  fun p l e s m args below meth c H locs ls hC hP hS hL => lv_ldc hC.1 hC.2.1 hC.2.2.2.2.1 (hC.2.2.2.2.2.1 _ hc) hd (k p l e s m args below meth c H locs ls hC hP hS hL)
theorem bw_ldc2 {index : Nat} {v : Int64} (hc : Cond.constantLong M.1.cls index v ∈ bw_tbl) (hd : decode M.2.1 pc = .ok (.ldc2_w index, 3)) (k : bw_G E d M (pc + 3) L (.long v :: st) w Q) : bw_G E d M pc L st w Q :=
  fun p l e s m args below meth c H locs ls hC hP hS hL => lv_ldc2 hC.1 hC.2.1 hC.2.2.2.2.1 (hC.2.2.2.2.2.1 _ hc) hd (k p l e s m args below meth c H locs ls hC hP hS hL)
theorem bw_gets {index : Nat} {f : String} {v : Int64} (hz : ("BentWordsModel", f, v) ∈ bw_stat) (hc : Cond.fieldLink M.1.cls index "BentWordsModel" f "J" ∈ bw_tbl) (hd : decode M.2.1 pc = .ok (.getstatic index, 3)) (k : bw_G E d M (pc + 3) L (.long v :: st) w Q) : bw_G E d M pc L st w Q :=
  fun p l e s m args below meth c H locs ls hC hP hS hL => va_gets hC.1 hC.2.1 (hC.2.2.2.2.2.2.2.2.2.1 _ hz) hS hC.2.2.2.2.1 (hC.2.2.2.2.2.1 _ hc) (fun _ h9 => h9) hd (k p l e s m args below meth c H locs ls hC hP hS hL)
theorem bw_ireturn {ty : FieldType} {v : Int32} (hd : decode M.2.1 pc = .ok (.ireturn, 1)) (hr : M.2.2.2 = some ty) (hn : narrow ty (.int v) = .int v) (hq : Q (some (.int v)) w) : bw_G E d M pc L [.int v] w Q := by
  intro p l e s m args below meth c H locs ls hC hP hS hL
  exact W.zret hC.1 hC.2.1 (hC.2.2.2.1.trans hr) hn (fun t ht hW => ⟨⟨some (.int v), w, rfl, hq, by rw [ht]; exact hP⟩, hS.F ht⟩) hS.2.2 hd hC.2.2.2.2.2.2.1
theorem bw_lreturn {v : Int64} (hd : decode M.2.1 pc = .ok (.lreturn, 1)) (hr : M.2.2.2 = some .long) (hq : Q (some (.long v)) w) : bw_G E d M pc L [.long v] w Q := by
  intro p l e s m args below meth c H locs ls hC hP hS hL
  exact W.lret hC.1 hC.2.1 (hC.2.2.2.1.trans hr) (fun t ht hW => ⟨⟨some (.long v), w, rfl, hq, by rw [ht]; exact hP⟩, hS.F ht⟩) hS.2.2 hd hC.2.2.2.2.2.2.1
theorem bw_return (hd : decode M.2.1 pc = .ok (.return_, 1)) (hr : M.2.2.2 = none) (hq : Q none w) : bw_G E d M pc L [] w Q := by
  intro p l e s m args below meth c H locs ls hC hP hS hL
  exact W.vret hC.1 hC.2.1 (hC.2.2.2.1.trans hr) (fun t ht hW => ⟨⟨none, w, rfl, hq, by rw [ht]; exact hP⟩, hS.F ht⟩) hS.2.2 hd hC.2.2.2.2.2.2.1
/-- what a getfield needs of the tables -/
def bw_fg (own : String) (idx ci n k t : Nat) : Prop := ∃ (C : String) (T : u_T), bw_cls[ci]? = some (C, T, n) ∧ k < n ∧ (∀ w ∈ u_ws C T n, w ∈ bw_tbl) ∧ Cond.fieldLink own idx (T k).1 (T k).2.1 (T k).2.2.1 ∈ bw_tbl ∧ (bw_ft.getD ci []).getD k 0 = t
def bw_fp (own : String) (idx ci n k t : Nat) (ty : FieldType) : Prop := ∃ (C : String) (T : u_T) (ty0 : Nat → FieldType), (∀ k, k < n → parseFieldDescriptor (T k).2.2.1 = some (ty0 k)) ∧ (∀ a, a < n → ∀ b, b < n → a ≠ b → (T a).2.1 ≠ (T b).2.1) ∧ bw_cls[ci]? = some (C, T, n) ∧ k < n ∧ (∀ w ∈ u_ws C T n, w ∈ bw_tbl) ∧ Cond.fieldLink own idx (T k).1 (T k).2.1 (T k).2.2.1 ∈ bw_tbl ∧ (bw_ft.getD ci []).getD k 0 = t ∧ (T k).2.2.2 = false ∧ parseFieldDescriptor (T k).2.2.1 = some ty
theorem bw_obj {E : bw_E} {w : bw_W} {c ci n : Nat} (hs : bw_sh c = (0, ci, n)) : (bw_ws E w)[c]? = some (E.1 c, .inr (ci, (List.range n).map (fun k => bw_fv E w c ci k))) := by
  rw [bw_ws_at (bw_lt hs (by decide)), bw_cell, hs]
  rfl
theorem bw_geti {idx c ci n k : Nat} (hF : bw_fg M.1.cls idx ci n k 0) (hs : bw_sh c = (0, ci, n)) (hd : decode M.2.1 pc = .ok (.getfield idx, 3)) (kk : bw_G E d M (pc + 3) L (.int (gw_i w c k) :: st) w Q) : bw_G E d M pc L (.ref c :: st) w Q := by
  obtain ⟨C, T, h1, h2, h3, h4, h5⟩ := hF
  intro p l e s m args below meth cd H locs ls hC hP hS hL
  refine va_get (v := .int (gw_i w c k)) hC.1 hC.2.1 hC.2.2.2.2.2.1 h3 hC.2.2.2.2.1 hC.2.2.2.2.2.2.2.1 hP c (bw_obj hs) h1 k h2 (hC.2.2.2.2.2.1 _ h4) (fun _ h9 => h9) ?_ hd (kk p l e s m args below meth cd H locs ls hC hP hS hL)
  rw [List.getElem?_map, List.getElem?_range h2]
  simp only [Option.map_some, bw_fv, h5, gw_i]
theorem bw_getl {idx c ci n k : Nat} (hF : bw_fg M.1.cls idx ci n k 1) (hs : bw_sh c = (0, ci, n)) (hd : decode M.2.1 pc = .ok (.getfield idx, 3)) (kk : bw_G E d M (pc + 3) L (.long (gw_l w c k) :: st) w Q) : bw_G E d M pc L (.ref c :: st) w Q := by
  obtain ⟨C, T, h1, h2, h3, h4, h5⟩ := hF
  intro p l e s m args below meth cd H locs ls hC hP hS hL
  refine va_get (v := .long (gw_l w c k)) hC.1 hC.2.1 hC.2.2.2.2.2.1 h3 hC.2.2.2.2.1 hC.2.2.2.2.2.2.2.1 hP c (bw_obj hs) h1 k h2 (hC.2.2.2.2.2.1 _ h4) (fun _ h9 => h9) ?_ hd (kk p l e s m args below meth cd H locs ls hC hP hS hL)
  rw [List.getElem?_map, List.getElem?_range h2]
  simp only [Option.map_some, bw_fv, h5, gw_l]
theorem bw_getr {idx c ci n k r : Nat} (hF : bw_fg M.1.cls idx ci n k 2) (hs : bw_sh c = (0, ci, n)) (hr : bw_rf c k = r) (hd : decode M.2.1 pc = .ok (.getfield idx, 3)) (kk : bw_G E d M (pc + 3) L (.ref r :: st) w Q) : bw_G E d M pc L (.ref c :: st) w Q := by
  obtain ⟨C, T, h1, h2, h3, h4, h5⟩ := hF
  intro p l e s m args below meth cd H locs ls hC hP hS hL
  refine va_get (v := .ref (E.1 r)) hC.1 hC.2.1 hC.2.2.2.2.2.1 h3 hC.2.2.2.2.1 hC.2.2.2.2.2.2.2.1 hP c (bw_obj hs) h1 k h2 (hC.2.2.2.2.2.1 _ h4) (fun _ h9 => h9) ?_ hd (kk p l e s m args below meth cd H locs ls hC hP hS hL)
  rw [List.getElem?_map, List.getElem?_range h2]
  simp only [Option.map_some, bw_fv, h5, hr]
theorem bw_range_set {α : Type} {n k : Nat} {f g : Nat → α} {v : α} (h1 : g k = v) (h2 : ∀ j, j ≠ k → g j = f j) : ((List.range n).map f).set k v = (List.range n).map g := by
  apply List.ext_getElem?
  intro i
  rw [List.getElem?_set]
  by_cases hi : k = i
  · subst hi
    rw [if_pos rfl]
    by_cases hk : k < n
    · simp [hk, h1]
    · simp [hk]
  · rw [if_neg hi]
    by_cases hk : i < n
    · simp [hk, h2 i (fun q => hi q.symm)]
    · simp [hk]
theorem bw_puti {idx c ci n k : Nat} {ty : FieldType} {v : Int32} (hF : bw_fp M.1.cls idx ci n k 0 ty) (hs : bw_sh c = (0, ci, n)) (hn : narrow ty (.int v) = .int v) (hf : fits ty (.int v) = true) (hd : decode M.2.1 pc = .ok (.putfield idx, 3)) (kk : bw_G E d M (pc + 3) L st (sw_i w c k v) Q) : bw_G E d M pc L (.int v :: .ref c :: st) w Q := by
  obtain ⟨C, T, ty0, g1, g2, h1, h2, h3, h4, h5, h6, h7⟩ := hF
  intro p l e s m args below meth cd H locs ls hC hP hS hL
  refine va_put (v := .int v) hC.1 hC.2.1 hC.2.2.2.2.2.1 h3 ty0 g1 g2 hC.2.2.2.2.1 hC.2.2.2.2.2.2.2.1 hP (bw_D hC.2.2.2.2.2.2.2.2.1 w) hS c (bw_obj hs) h1 k h2 (hC.2.2.2.2.2.1 _ h4) (fun _ h9 => h9) h6 h7 hn hf (by simpa using h2) hd (fun H1 locs1 hP1 hD1 hS1 => ?_)
  refine kk p l e s m args below meth cd H1 locs1 ls hC ?_ hS1 hL
  rw [bw_ws_set (w' := sw_i w c k v) (bw_lt hs (by decide)) ?_ ?_] at hP1
  · exact hP1
  · rw [hs]
    show Sum.inr (ci, (List.range n).map (fun k_1 => bw_fv E (sw_i w c k v) c ci k_1)) = Sum.inr (ci, ((List.range n).map (fun k => bw_fv E w c ci k)).set k (.int v))
    rw [bw_range_set (g := fun j => bw_fv E (sw_i w c k v) c ci j)]
    · simp only [bw_fv, h5, sw_i, cw_i, if_true]
    · intro j hj
      simp only [bw_fv, sw_i, cw_i, if_true, if_neg hj]
  · intro i hi
    simp only [sw_i, cw_i, if_neg hi, and_self]
theorem bw_putl {idx c ci n k : Nat} {v : Int64} (hF : bw_fp M.1.cls idx ci n k 1 .long) (hs : bw_sh c = (0, ci, n)) (hd : decode M.2.1 pc = .ok (.putfield idx, 3)) (kk : bw_G E d M (pc + 3) L st (sw_l w c k v) Q) : bw_G E d M pc L (.long v :: .ref c :: st) w Q := by
  obtain ⟨C, T, ty0, g1, g2, h1, h2, h3, h4, h5, h6, h7⟩ := hF
  intro p l e s m args below meth cd H locs ls hC hP hS hL
  refine va_put (v := .long v) hC.1 hC.2.1 hC.2.2.2.2.2.1 h3 ty0 g1 g2 hC.2.2.2.2.1 hC.2.2.2.2.2.2.2.1 hP (bw_D hC.2.2.2.2.2.2.2.2.1 w) hS c (bw_obj hs) h1 k h2 (hC.2.2.2.2.2.1 _ h4) (fun _ h9 => h9) h6 h7 rfl rfl (by simpa using h2) hd (fun H1 locs1 hP1 hD1 hS1 => ?_)
  refine kk p l e s m args below meth cd H1 locs1 ls hC ?_ hS1 hL
  rw [bw_ws_set (w' := sw_l w c k v) (bw_lt hs (by decide)) ?_ ?_] at hP1
  · exact hP1
  · rw [hs]
    show Sum.inr (ci, (List.range n).map (fun k_1 => bw_fv E (sw_l w c k v) c ci k_1)) = Sum.inr (ci, ((List.range n).map (fun k => bw_fv E w c ci k)).set k (.long v))
    rw [bw_range_set (g := fun j => bw_fv E (sw_l w c k v) c ci j)]
    · simp only [bw_fv, h5, sw_l, cw_l, if_true]
    · intro j hj
      simp only [bw_fv, sw_l, cw_l, if_true, if_neg hj]
  · intro i hi
    simp only [sw_l, cw_l, if_neg hi, and_self]
theorem bw_arri {E : bw_E} {w : bw_W} {c n x : Nat} (hs : bw_sh c = (1, n, x)) : (bw_ws E w)[c]? = some (E.1 c, .inl (E.2.2.2 0, n, .inl (w.1 c))) := by
  rw [bw_ws_at (bw_lt hs (by decide)), bw_cell, hs]
  rfl
theorem bw_iaload {c n x : Nat} {i : Int32} (hs : bw_sh c = (1, n, x)) (hi : vp_in i n) (hd : decode M.2.1 pc = .ok (.iaload, 1)) (kk : bw_G E d M (pc + 1) L (.int (gw_i w c i.toNatClampNeg) :: st) w Q) : bw_G E d M pc L (.int i :: .ref c :: st) w Q :=
  fun p l e s m args below meth cd H locs ls hC hP hS hL => va_iald hC.1 hC.2.1 hC.2.2.2.2.2.2.2.1 hP c 0 (bw_arri hs) rfl hi hd (kk p l e s m args below meth cd H locs ls hC hP hS hL)
theorem bw_arrc {E : bw_E} {w : bw_W} {c n x : Nat} (hs : bw_sh c = (3, n, x)) : (bw_ws E w)[c]? = some (E.1 c, .inl (E.2.2.2 2, n, .inl (w.1 c))) := by
  rw [bw_ws_at (bw_lt hs (by decide)), bw_cell, hs]
  rfl
theorem bw_caload {c n x : Nat} {i : Int32} (hs : bw_sh c = (3, n, x)) (hi : vp_in i n) (hd : decode M.2.1 pc = .ok (.caload, 1)) (kk : bw_G E d M (pc + 1) L (.int (gw_i w c i.toNatClampNeg) :: st) w Q) : bw_G E d M pc L (.int i :: .ref c :: st) w Q :=
  fun p l e s m args below meth cd H locs ls hC hP hS hL => va_cald hC.1 hC.2.1 hC.2.2.2.2.2.2.2.1 hP c 2 (bw_arrc hs) rfl hi hd (kk p l e s m args below meth cd H locs ls hC hP hS hL)
theorem bw_arrl {E : bw_E} {w : bw_W} {c n x : Nat} (hs : bw_sh c = (2, n, x)) : (bw_ws E w)[c]? = some (E.1 c, .inl (E.2.2.2 1, n, .inr (.inl (w.2 c)))) := by
  rw [bw_ws_at (bw_lt hs (by decide)), bw_cell, hs]
  rfl
theorem bw_laload {c n x : Nat} {i : Int32} (hs : bw_sh c = (2, n, x)) (hi : vp_in i n) (hd : decode M.2.1 pc = .ok (.laload, 1)) (kk : bw_G E d M (pc + 1) L (.long (gw_l w c i.toNatClampNeg) :: st) w Q) : bw_G E d M pc L (.int i :: .ref c :: st) w Q :=
  fun p l e s m args below meth cd H locs ls hC hP hS hL => va_lald hC.1 hC.2.1 hC.2.2.2.2.2.2.2.1 hP c 1 (bw_arrl hs) rfl hi hd (kk p l e s m args below meth cd H locs ls hC hP hS hL)
theorem bw_iastore {c n x : Nat} {i v : Int32} (hs : bw_sh c = (1, n, x)) (hi : vp_in i n) (hd : decode M.2.1 pc = .ok (.iastore, 1)) (kk : bw_G E d M (pc + 1) L st (sw_i w c i.toNatClampNeg v) Q) : bw_G E d M pc L (.int v :: .int i :: .ref c :: st) w Q := by
  intro p l e s m args below meth cd H locs ls hC hP hS hL
  refine va_iast hC.1 hC.2.1 hC.2.2.2.2.2.2.2.1 hP (bw_D hC.2.2.2.2.2.2.2.2.1 w) hS c 0 (bw_arri hs) rfl hi hd (fun H1 locs1 hP1 hD1 hS1 => ?_)
  refine kk p l e s m args below meth cd H1 locs1 ls hC ?_ hS1 hL
  rw [bw_ws_set (w' := sw_i w c i.toNatClampNeg v) (bw_lt hs (by decide)) ?_ ?_] at hP1
  · exact hP1
  · rw [hs]
    simp only [bw_ce, sw_i, cw_i, if_true]
    rfl
  · intro j hj
    simp only [sw_i, cw_i, if_neg hj, and_self]
theorem bw_castore {c n x : Nat} {i v : Int32} (hs : bw_sh c = (3, n, x)) (hi : vp_in i n) (hd : decode M.2.1 pc = .ok (.castore, 1)) (kk : bw_G E d M (pc + 1) L st (sw_i w c i.toNatClampNeg (vp_nar .char v)) Q) : bw_G E d M pc L (.int v :: .int i :: .ref c :: st) w Q := by
  intro p l e s m args below meth cd H locs ls hC hP hS hL
  refine va_cast hC.1 hC.2.1 hC.2.2.2.2.2.2.2.1 hP (bw_D hC.2.2.2.2.2.2.2.2.1 w) hS c 2 (bw_arrc hs) rfl hi hd (fun H1 locs1 hP1 hD1 hS1 => ?_)
  refine kk p l e s m args below meth cd H1 locs1 ls hC ?_ hS1 hL
  rw [bw_ws_set (w' := sw_i w c i.toNatClampNeg (vp_nar .char v)) (bw_lt hs (by decide)) ?_ ?_] at hP1
  · exact hP1
  · rw [hs]
    simp only [bw_ce, sw_i, cw_i, if_true]
    rfl
  · intro j hj
    simp only [sw_i, cw_i, if_neg hj, and_self]
theorem bw_lastore {c n x : Nat} {i : Int32} {v : Int64} (hs : bw_sh c = (2, n, x)) (hi : vp_in i n) (hd : decode M.2.1 pc = .ok (.lastore, 1)) (kk : bw_G E d M (pc + 1) L st (sw_l w c i.toNatClampNeg v) Q) : bw_G E d M pc L (.long v :: .int i :: .ref c :: st) w Q := by
  intro p l e s m args below meth cd H locs ls hC hP hS hL
  refine va_last hC.1 hC.2.1 hC.2.2.2.2.2.2.2.1 hP (bw_D hC.2.2.2.2.2.2.2.2.1 w) hS c 1 (bw_arrl hs) rfl hi hd (fun H1 locs1 hP1 hD1 hS1 => ?_)
  refine kk p l e s m args below meth cd H1 locs1 ls hC ?_ hS1 hL
  rw [bw_ws_set (w' := sw_l w c i.toNatClampNeg v) (bw_lt hs (by decide)) ?_ ?_] at hP1
  · exact hP1
  · rw [hs]
    simp only [bw_ce, sw_l, cw_l, if_true]
    rfl
  · intro j hj
    simp only [sw_l, cw_l, if_neg hj, and_self]
theorem bw_aaload4 {c n x r : Nat} {i : Int32} (hs : bw_sh c = (4, n, x)) (hi : vp_in i n) (hr : bw_rf c i.toNatClampNeg = r) (hd : decode M.2.1 pc = .ok (.aaload, 1)) (kk : bw_G E d M (pc + 1) L (.ref r :: st) w Q) : bw_G E d M pc L (.int i :: .ref c :: st) w Q := by
  intro p l e s m args below meth cd H locs ls hC hP hS hL
  subst hr
  have ha : (bw_ws E w)[c]? = some (E.1 c, .inl (E.2.2.2 3, n, .inr (.inr (.inr (.inr (fun j => some (E.1 (bw_rf c j)))))))) := by
    rw [bw_ws_at (bw_lt hs (by decide)), bw_cell, hs]
    rfl
  exact va_aldq hC.1 hC.2.1 hC.2.2.2.2.2.2.2.1 hP c 3 ha rfl hi hd (kk p l e s m args below meth cd H locs ls hC hP hS hL)
theorem bw_aaload5 {c n x r : Nat} {i : Int32} (hs : bw_sh c = (5, n, x)) (hi : vp_in i n) (hr : bw_rf c i.toNatClampNeg = r) (hd : decode M.2.1 pc = .ok (.aaload, 1)) (kk : bw_G E d M (pc + 1) L (.ref r :: st) w Q) : bw_G E d M pc L (.int i :: .ref c :: st) w Q := by
  intro p l e s m args below meth cd H locs ls hC hP hS hL
  subst hr
  have ha : (bw_ws E w)[c]? = some (E.1 c, .inl (E.2.2.2 4, n, .inr (.inr (.inr (.inr (fun j => some (E.1 (bw_rf c j)))))))) := by
    rw [bw_ws_at (bw_lt hs (by decide)), bw_cell, hs]
    rfl
  exact va_aldq hC.1 hC.2.1 hC.2.2.2.2.2.2.2.1 hP c 4 ha rfl hi hd (kk p l e s m args below meth cd H locs ls hC hP hS hL)
theorem bw_aleni {c n x : Nat} {v : Int32} (hs : bw_sh c = (1, n, x)) (hv : Int32.ofNat n = v) (hd : decode M.2.1 pc = .ok (.arraylength, 1)) (kk : bw_G E d M (pc + 1) L (.int v :: st) w Q) : bw_G E d M pc L (.ref c :: st) w Q :=
  fun p l e s m args below meth cd H locs ls hC hP hS hL => va_alen hC.1 hC.2.1 hC.2.2.2.2.2.2.2.1 hP c 0 (bw_arri hs) rfl hv hd (kk p l e s m args below meth cd H locs ls hC hP hS hL)
theorem bw_alenl {c n x : Nat} {v : Int32} (hs : bw_sh c = (2, n, x)) (hv : Int32.ofNat n = v) (hd : decode M.2.1 pc = .ok (.arraylength, 1)) (kk : bw_G E d M (pc + 1) L (.int v :: st) w Q) : bw_G E d M pc L (.ref c :: st) w Q :=
  fun p l e s m args below meth cd H locs ls hC hP hS hL => va_alen hC.1 hC.2.1 hC.2.2.2.2.2.2.2.1 hP c 1 (bw_arrl hs) rfl hv hd (kk p l e s m args below meth cd H locs ls hC hP hS hL)
theorem bw_alenc {c n x : Nat} {v : Int32} (hs : bw_sh c = (3, n, x)) (hv : Int32.ofNat n = v) (hd : decode M.2.1 pc = .ok (.arraylength, 1)) (kk : bw_G E d M (pc + 1) L (.int v :: st) w Q) : bw_G E d M pc L (.ref c :: st) w Q :=
  fun p l e s m args below meth cd H locs ls hC hP hS hL => va_alen hC.1 hC.2.1 hC.2.2.2.2.2.2.2.1 hP c 2 (bw_arrc hs) rfl hv hd (kk p l e s m args below meth cd H locs ls hC hP hS hL)
theorem bw_back {p : Program} {l : Launch} {e : Env} {s : State} {m : MethodId} {args : Array Value} {below : List Frame} {meth : Method} {c : Code} {H : Heap} {locs : List Loc} {ls : Array Slot} {st0 : List Value} {Q' : Option Value → bw_W → Prop} {aa : Array Value} (hC : bw_C E M p s m args meth c) (hS : va_S (bw_A E) s.heap H locs) (hL : bw_lr E L ls M.2.2.1)
    (hr : va_Run p l e (bw_R d) s m args below meth c H locs 0 0 0 0 (F0 m pc ls st0) (st.map (bw_v E)) (bw_Q E Q' aa) (bw_A E)) (kk : ∀ r w', Q' r w' → bw_G E d M (pc + 3) L (r.toList ++ st) w' Q) :
    W p l e (bw_R d) s m args below meth c H locs 0 0 (MQ below (bw_Q E Q) args s 0 0 (bw_A E)) (F0 m pc ls st0) := by
  intro T hT X
  obtain ⟨v, st₀, t, T', L', h0, X', hL', e1, e2, ⟨⟨r, w', hv, hq, hP'⟩, hz, hk⟩, go⟩ := hr T hT X
  rw [h0] at hz hk
  have hv' : v = r.map (bw_v E) := by
    injection hv
  subst hv'
  have hS' : va_S (bw_A E) s.heap T'.heap (locs ++ L') := by
    refine ⟨Nat.le_trans hS.1 (by rw [e1]; exact hz), fun q h1 h2 => ?_, fun q hq => ?_⟩
    · rw [e1, hk q (Nat.lt_of_lt_of_le h1 hS.1) h2]
      exact hS.2.1 q h1 h2
    · rcases List.mem_append.mp hq with h | h
      · exact hS.2.2 q h
      · exact hL' q h
  obtain ⟨t2, a1, b1⟩ := kk r w' hq p l e s m args below meth c T'.heap (locs ++ L') ls hC (by rw [e1]; exact hP') hS' hL T' rfl X'
  refine ⟨t2, go t2 ?_, b1⟩
  have : (r.toList ++ st).map (bw_v E) = (r.map (bw_v E)).toList ++ st.map (bw_v E) := by cases r <;> rfl
  rw [this] at a1
  exact a1
/-- the tables' words for a call of M' -/
def bw_cv (own : String) (idx n : Nat) (M' : bw_M) : Prop := Cond.methodLink own idx M'.1 ∈ bw_tbl ∧ Cond.instanceMethod M'.1 ∈ bw_tbl ∧ Cond.selects M'.1.cls M'.1 M'.1 ∈ bw_tbl ∧ Cond.initialized M'.1.cls ∈ bw_tbl ∧ Cond.code M'.1 M'.2.1 M'.2.2.1 M'.2.2.2 ∈ bw_tbl ∧ (M'.1.cls ≠ "java/lang/invoke/MethodHandle" ∧ M'.1.cls ≠ "java/lang/invoke/VarHandle" ∧ (parseMethodDescriptor M'.1.desc).map (fun d => d.parameters.length) = some n) ∧ M'.2.2.1 ≤ 21
def bw_cs (own : String) (idx n : Nat) (M' : bw_M) : Prop := Cond.methodLink own idx M'.1 ∈ bw_tbl ∧ Cond.static M'.1 ∈ bw_tbl ∧ Cond.initialized M'.1.cls ∈ bw_tbl ∧ Cond.code M'.1 M'.2.1 M'.2.2.1 M'.2.2.2 ∈ bw_tbl ∧ (M'.1.cls ≠ "java/lang/invoke/MethodHandle" ∧ M'.1.cls ≠ "java/lang/invoke/VarHandle" ∧ (parseMethodDescriptor M'.1.desc).map (fun d => d.parameters.length) = some n) ∧ M'.2.2.1 ≤ 21
theorem bw_gw {M' : bw_M} (h : Cond.code M'.1 M'.2.1 M'.2.2.1 M'.2.2.2 ∈ bw_tbl) : GoodIn bw_tbl (bw_wd M') := fun w hw => (List.mem_cons.mp hw).elim (fun e => by rw [e]; exact bw_good _ h) (fun h => bw_good w h)
theorem bw_pre {E : bw_E} {M : bw_M} {p : Program} {s : State} {m : MethodId} {args : Array Value} {meth : Method} {c : Code} {H : Heap} {locs : List Loc} {w : bw_W} (A : List Value) (hC : bw_C E M p s m args meth c) (hP : va_P (E.2.1, E.2.2.1) bw_cls (bw_ws E w) H) (hS : va_S (bw_A E) s.heap H locs) : ∀ U : State, U.heap = H → s.WarmedH U.vm → bw_P E A w (A.map (bw_v E)).toArray U :=
  fun U hU hW => ⟨rfl, by rw [hU]; exact hP, va_K.moved hW.alike hC.2.2.2.2.2.2.2.1, hC.2.2.2.2.2.2.2.2.1, hC.2.2.2.2.2.2.2.2.2.go hS hU hW⟩
theorem bw_callV {idx n b ci nf : Nat} {As st0 : List Value} {M' : bw_M} {Q' : Option Value → bw_W → Prop} (hc : bw_cv M.1.cls idx n M') (hs : bw_sh b = (0, ci, nf)) (hcl : (bw_cls[ci]?).map (fun q => q.1) = some M'.1.cls) (hr : bw_run E d M' (.ref b :: As) w Q') (hn : As.length = n) (hst : st0 = As.reverse ++ .ref b :: st) (hw : (st.map fun v => v.category).sum ≤ 8) (hd : decode M.2.1 pc = .ok (.invokevirtual idx, 3)) (kk : ∀ r w', Q' r w' → bw_G E (d + 1) M (pc + 3) L (r.toList ++ st) w' Q) : bw_G E (d + 1) M pc L st0 w Q := by
  intro p l e s m args below meth c H locs ls hC hP hS hL
  obtain ⟨c1, c2, c3, c4, c5, c6, c7⟩ := hc
  have ht := hC.2.2.2.2.2.1
  have hrv : ∃ cellB : Cell, H[E.1 b]? = some cellB ∧ cellB.vm.isStatics = false ∧ s.vm.findClass M'.1.cls = some cellB.cls := by
    cases hq : bw_cls[ci]? with
    | none => rw [hq] at hcl; cases hcl
    | some q =>
      rw [hq] at hcl
      have hcl : q.1 = M'.1.cls := Option.some.inj hcl
      rw [← hcl]
      exact va_recv hC.2.2.2.2.2.2.2.1 hP hq (bw_obj hs)
  have hcat : ∀ l : List Value, ((l.map (bw_v E)).map fun v => v.category) = l.map fun v => v.category := by
    intro l
    rw [List.map_map]
    exact List.map_congr_left (fun v _ => bw_v_cat E v)
  subst hst
  have := va_runV (p := p) (l := l) (e := e) (below := below) (meth := meth) (R := bw_R (d + 1)) (As := As.map (bw_v E)) (rest := st.map (bw_v E)) (g := F0 m pc ls ((As.reverse ++ .ref b :: st).map (bw_v E))) (cells := 0) (slots := 0) (locs := locs) (S := ⟨hC.1, hC.2.1, hC.2.2.1, hC.2.2.2.2.1, ht⟩) (hr l) (C := M'.1.cls) (index := idx) (n := n) (bytes := M'.2.1) (maxL := M'.2.2.1) (ret := M'.2.2.2) (b := E.1 b) (H := H)
    ⟨callB_of n ht (bw_gw c5) rfl rfl rfl (ht _ c4) (ht _ c1) c6 ⟨Nat.le_refl _, by show 8 + (M'.2.2.1 + 11) + 40 * d ≤ 40 * (d + 1); omega⟩, ht _ c2, ht _ c3⟩
    ⟨bw_blind E _ w, hrv, bw_pre (.ref b :: As) hC hP hS⟩ rfl (by rw [List.length_map]; exact hn) hL.1 (by simp [bw_v]) (by rw [hcat]; simpa [JFrame.monitorRoom] using hw) hd ⟨Nat.le_refl _, Nat.le_refl _⟩
  exact bw_back (st := st) (Q' := Q') hC hS hL this kk
theorem bw_callS {idx n : Nat} {As st0 : List Value} {M' : bw_M} {Q' : Option Value → bw_W → Prop} (hc : bw_cs M.1.cls idx n M') (hr : bw_run E d M' As w Q') (hn : As.length = n) (hst : st0 = As.reverse ++ st) (hw : (st.map fun v => v.category).sum ≤ 8) (hd : decode M.2.1 pc = .ok (.invokestatic idx, 3)) (kk : ∀ r w', Q' r w' → bw_G E (d + 1) M (pc + 3) L (r.toList ++ st) w' Q) : bw_G E (d + 1) M pc L st0 w Q := by
  intro p l e s m args below meth c H locs ls hC hP hS hL
  obtain ⟨c1, c2, c4, c5, c6, c7⟩ := hc
  have ht := hC.2.2.2.2.2.1
  have hcat : ∀ l : List Value, ((l.map (bw_v E)).map fun v => v.category) = l.map fun v => v.category := by
    intro l
    rw [List.map_map]
    exact List.map_congr_left (fun v _ => bw_v_cat E v)
  subst hst
  have := va_runS (p := p) (l := l) (e := e) (below := below) (meth := meth) (R := bw_R (d + 1)) (As := As.map (bw_v E)) (rest := st.map (bw_v E)) (g := F0 m pc ls ((As.reverse ++ st).map (bw_v E))) (cells := 0) (slots := 0) (locs := locs) (S := ⟨hC.1, hC.2.1, hC.2.2.1, hC.2.2.2.2.1, ht⟩) (hr l) (index := idx) (n := n) (bytes := M'.2.1) (maxL := M'.2.2.1) (ret := M'.2.2.2) (H := H)
    ⟨callB_of n ht (bw_gw c5) rfl rfl rfl (ht _ c4) (ht _ c1) c6 ⟨Nat.le_refl _, by show 8 + (M'.2.2.1 + 11) + 40 * d ≤ 40 * (d + 1); omega⟩, ht _ c2⟩
    ⟨bw_blind E _ w, bw_pre As hC hP hS⟩ rfl (by rw [List.length_map]; exact hn) hL.1 (by simp) (by rw [hcat]; simpa [JFrame.monitorRoom] using hw) hd ⟨Nat.le_refl _, Nat.le_refl _⟩
  exact bw_back (st := st) (Q' := Q') hC hS hL this kk
end BWR
