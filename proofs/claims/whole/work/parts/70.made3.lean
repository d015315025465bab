/-! constructors: an object j among cs, and what it made -/
def bk_nf (cs : List va_E) (j : Nat) (X : va_E) (Y : List va_E) : List va_E := cs.set j X ++ Y
theorem bk_nf0 {cs : List va_E} {j : Nat} {X : va_E} (h : cs[j]? = some X) : cs = bk_nf cs j X [] := by
  unfold bk_nf
  rw [List.append_nil]
  apply List.ext_getElem?
  intro i
  rw [List.getElem?_set]
  by_cases hij : j = i
  · subst hij
    rw [if_pos rfl, if_pos (List.getElem?_eq_some_iff.mp h).1, h]
  · rw [if_neg hij]
theorem bk_nf_push {cs : List va_E} {j : Nat} {X a : va_E} {Y : List va_E} : bk_nf cs j X Y ++ [a] = bk_nf cs j X (Y ++ [a]) := by unfold bk_nf; rw [List.append_assoc]
theorem bk_nf_len {cs : List va_E} {j K m : Nat} {X : va_E} {Y : List va_E} (hK : cs.length = K) (hm : Y.length = m) : (bk_nf cs j X Y).length = K + m := by unfold bk_nf; rw [List.length_append, List.length_set, hK, hm]
theorem bk_nf_j {cs : List va_E} {j : Nat} {X : va_E} {Y : List va_E} (hj : j < cs.length) : (bk_nf cs j X Y)[j]? = some X := by
  unfold bk_nf
  rw [List.getElem?_append_left (by rw [List.length_set]; exact hj), List.getElem?_set, if_pos rfl, if_pos hj]
theorem bk_nf_setj {cs : List va_E} {j : Nat} {X X' : va_E} {Y : List va_E} (hj : j < cs.length) : (bk_nf cs j X Y).set j X' = bk_nf cs j X' Y := by
  unfold bk_nf
  rw [List.set_append_left _ _ (by rw [List.length_set]; exact hj), List.set_set]
theorem bk_nf_at {cs : List va_E} {j K i : Nat} {X a : va_E} {Y : List va_E} (hK : cs.length = K) (h : Y[i]? = some a) : (bk_nf cs j X Y)[K + i]? = some a := by
  unfold bk_nf
  rw [List.getElem?_append_right (by rw [List.length_set]; omega), List.length_set, show K + i - cs.length = i by omega]
  exact h
theorem bk_nf_set {cs : List va_E} {j K i : Nat} {X a : va_E} {Y : List va_E} (hK : cs.length = K) : (bk_nf cs j X Y).set (K + i) a = bk_nf cs j X (Y.set i a) := by
  unfold bk_nf
  rw [List.set_append_right _ _ (by rw [List.length_set]; omega), List.length_set, show K + i - cs.length = i by omega]
section BKN
variable {E : bw_E} {R : Room} {M : bw_M} {pc : Nat} {L : List (Option Value)} {st : List Value} {cs cs2 : List va_E} {n0 k0 mc ms j K : Nat} {X : va_E} {Y : List va_E}
theorem bk_eq {cs1 : List va_E} (h : cs = cs1) (k : bk_G E R M pc L st cs1 n0 k0 mc ms cs2) : bk_G E R M pc L st cs n0 k0 mc ms cs2 := h ▸ k
theorem bn_newi {n : Int32} {N m : Nat} (hK : cs.length = K) (hm : Y.length = m) (hN : n.toNatClampNeg = N) (hn : ¬ n < 0) (hb : N ≤ 60000000) (hc : n0 + 1 ≤ R.cells) (hs : k0 + N ≤ R.slots) (hd : decode M.2.1 pc = .ok (.newarray .int, 2)) (kk : bk_G E R M (pc + 2) L (.ref (K + m) :: st) (bk_nf cs j X (Y ++ [.inl (E.2.2.2 0, N, .inl (fun _ => 0))])) (n0 + 1) (k0 + N) mc ms cs2) : bk_G E R M pc L (.int n :: st) (bk_nf cs j X Y) n0 k0 mc ms cs2 :=
  bk_newi hN hn hb hc hs hd (by rw [bk_nf_len hK hm, bk_nf_push]; exact kk)
theorem bn_newl {n : Int32} {N m : Nat} (hK : cs.length = K) (hm : Y.length = m) (hN : n.toNatClampNeg = N) (hn : ¬ n < 0) (hb : N ≤ 60000000) (hc : n0 + 1 ≤ R.cells) (hs : k0 + N ≤ R.slots) (hd : decode M.2.1 pc = .ok (.newarray .long, 2)) (kk : bk_G E R M (pc + 2) L (.ref (K + m) :: st) (bk_nf cs j X (Y ++ [.inl (E.2.2.2 1, N, .inr (.inl (fun _ => 0)))])) (n0 + 1) (k0 + N) mc ms cs2) : bk_G E R M pc L (.int n :: st) (bk_nf cs j X Y) n0 k0 mc ms cs2 :=
  bk_newl hN hn hb hc hs hd (by rw [bk_nf_len hK hm, bk_nf_push]; exact kk)
theorem bn_newc {n : Int32} {N m : Nat} (hK : cs.length = K) (hm : Y.length = m) (hN : n.toNatClampNeg = N) (hn : ¬ n < 0) (hb : N ≤ 60000000) (hc : n0 + 1 ≤ R.cells) (hs : k0 + N ≤ R.slots) (hd : decode M.2.1 pc = .ok (.newarray .char, 2)) (kk : bk_G E R M (pc + 2) L (.ref (K + m) :: st) (bk_nf cs j X (Y ++ [.inl (E.2.2.2 2, N, .inl (fun _ => 0))])) (n0 + 1) (k0 + N) mc ms cs2) : bk_G E R M pc L (.int n :: st) (bk_nf cs j X Y) n0 k0 mc ms cs2 :=
  bk_newc hN hn hb hc hs hd (by rw [bk_nf_len hK hm, bk_nf_push]; exact kk)
theorem bn_newq {idx k : Nat} {C : String} {n : Int32} {N m : Nat} (hK : cs.length = K) (hm : Y.length = m) (hty : (bw_ty E)[k]? = some (E.2.2.2 k, .object C)) (hw : Cond.classLink M.1.cls idx C ∈ bw_tbl) (hov : ∀ U, bk_X U → va_AO C U) (hN : n.toNatClampNeg = N) (hn : ¬ n < 0) (hb : N ≤ 60000000) (hc : n0 + 1 ≤ R.cells) (hs : k0 + N ≤ R.slots) (hd : decode M.2.1 pc = .ok (.anewarray idx, 3)) (kk : bk_G E R M (pc + 3) L (.ref (K + m) :: st) (bk_nf cs j X (Y ++ [.inl (E.2.2.2 k, N, .inr (.inr (.inr (.inr (fun _ => none)))))])) (n0 + 1) (k0 + N) mc ms cs2) : bk_G E R M pc L (.int n :: st) (bk_nf cs j X Y) n0 k0 mc ms cs2 :=
  bk_newq (k := k) (fun _ => hty) hw hov hN hn hb hc hs hd (by rw [bk_nf_len hK hm, bk_nf_push]; exact kk)
theorem bn_new {idx ci N m : Nat} {C : String} {T : u_T} {ty : Nat → FieldType} {fs : List Value} (hK : cs.length = K) (hm : Y.length = m) (hty : ∀ k, k < N → parseFieldDescriptor (T k).2.2.1 = some (ty k)) (hin : ∀ w ∈ u_ws C T N, w ∈ bw_tbl) (hw : Cond.classLink M.1.cls idx C ∈ bw_tbl ∧ Cond.instantiable C N ∈ bw_tbl ∧ Cond.initialized C ∈ bw_tbl) (hcl : bw_cls[ci]? = some (C, T, N)) (hfs : ∀ j, j < N → defaultValue (ty j) = vp_V fs j) (hc : n0 + 1 ≤ R.cells) (hs : k0 + N ≤ R.slots) (hd : decode M.2.1 pc = .ok (.new idx, 3)) (kk : bk_G E R M (pc + 3) L (.ref (K + m) :: st) (bk_nf cs j X (Y ++ [.inr (ci, fs)])) (n0 + 1) (k0 + N) mc ms cs2) : bk_G E R M pc L st (bk_nf cs j X Y) n0 k0 mc ms cs2 :=
  bk_new hty hin hw hcl hfs hc hs hd (by rw [bk_nf_len hK hm, bk_nf_push]; exact kk)
/-- the words of a final field that is put -/
def bk_fp (own : String) (idx ci N k : Nat) (ty : FieldType) : Prop := ∃ (C : String) (T : u_T) (ty0 : Nat → FieldType), (∀ k, k < N → parseFieldDescriptor (T k).2.2.1 = some (ty0 k)) ∧ (∀ a, a < N → ∀ b, b < N → a ≠ b → (T a).2.1 ≠ (T b).2.1) ∧ (∀ w ∈ u_ws C T N, w ∈ bw_tbl) ∧ bw_cls[ci]? = some (C, T, N) ∧ k < N ∧ Cond.fieldLink own idx (T k).1 (T k).2.1 (T k).2.2.1 ∈ bw_tbl ∧ (T k).2.2.2 = true ∧ (T k).1 = own ∧ parseFieldDescriptor (T k).2.2.1 = some ty
theorem bn_put {idx ci N k x : Nat} {ty : FieldType} {fs : List Value} (hj : j < cs.length) (hF : bk_fp M.1.cls idx ci N k ty) (hnr : ∀ a, narrow ty (.ref a) = .ref a ∧ fits ty (.ref a) = true) (hl : k < fs.length) (hd : decode M.2.1 pc = .ok (.putfield idx, 3)) (kk : bk_G E R M (pc + 3) L st (bk_nf cs j (.inr (ci, fs.set k (.ref (E.1 x)))) Y) n0 k0 mc ms cs2) : bk_G E R M pc L (.ref x :: .ref j :: st) (bk_nf cs j (.inr (ci, fs)) Y) n0 k0 mc ms cs2 := by
  obtain ⟨C, T, ty0, h1, h2, h3, h4, h5, h6, h7, h8, h9⟩ := hF
  exact bk_put h1 h2 h3 h4 h5 h6 h7 h8 h9 hnr (bk_nf_j hj) hl hd (by rw [bk_nf_setj hj]; exact kk)
theorem bn_get {idx ci N k x : Nat} {ty : FieldType} {fs : List Value} (hj : j < cs.length) (hF : bk_fp M.1.cls idx ci N k ty) (hv : fs[k]? = some (.ref (E.1 x))) (hd : decode M.2.1 pc = .ok (.getfield idx, 3)) (kk : bk_G E R M (pc + 3) L (.ref x :: st) (bk_nf cs j (.inr (ci, fs)) Y) n0 k0 mc ms cs2) : bk_G E R M pc L (.ref j :: st) (bk_nf cs j (.inr (ci, fs)) Y) n0 k0 mc ms cs2 := by
  obtain ⟨C, T, ty0, h1, h2, h3, h4, h5, h6, h7, h8, h9⟩ := hF
  exact bk_get h3 h4 h5 h6 (bk_nf_j hj) hv hd kk
theorem bn_alen {i k N : Nat} {C : String} {v : Int32} {f : Nat → Option Nat} (hK : cs.length = K) (hty : (bw_ty E)[k]? = some (E.2.2.2 k, .object C)) (he : Y[i]? = some (.inl (E.2.2.2 k, N, .inr (.inr (.inr (.inr f)))))) (hv : Int32.ofNat N = v) (hd : decode M.2.1 pc = .ok (.arraylength, 1)) (kk : bk_G E R M (pc + 1) L (.int v :: st) (bk_nf cs j X Y) n0 k0 mc ms cs2) : bk_G E R M pc L (.ref (K + i) :: st) (bk_nf cs j X Y) n0 k0 mc ms cs2 :=
  bk_alen hty (bk_nf_at hK he) hv hd kk
theorem bn_aast {i k N x ci : Nat} {r : vw_C} {vs : List Value} {v : Int32} {f : Nat → Option Nat} (hK : cs.length = K) (hty : (bw_ty E)[k]? = some (E.2.2.2 k, .object r.1)) (ha : Y[i]? = some (.inl (E.2.2.2 k, N, .inr (.inr (.inr (.inr f)))))) (hv : Y[x]? = some (.inr (ci, vs))) (hcl : bw_cls[ci]? = some r) (hi : vp_in v N) (hd : decode M.2.1 pc = .ok (.aastore, 1)) (kk : bk_G E R M (pc + 1) L st (bk_nf cs j X (Y.set i (.inl (E.2.2.2 k, N, .inr (.inr (.inr (.inr (va_up f v.toNatClampNeg (some (E.1 (K + x))))))))))) n0 k0 mc ms cs2) : bk_G E R M pc L (.ref (K + x) :: .int v :: .ref (K + i) :: st) (bk_nf cs j X Y) n0 k0 mc ms cs2 :=
  bk_aast hty (bk_nf_at hK ha) (bk_nf_at hK hv) hcl hi hd (by rw [bk_nf_set hK]; exact kk)
/-- a callee's world: its object is i of what was made -/
theorem bk_nf_nf {i : Nat} {X' : va_E} {Y' : List va_E} (hK : cs.length = K) : bk_nf (bk_nf cs j X Y) (K + i) X' Y' = bk_nf cs j X (Y.set i X' ++ Y') := by
  show (bk_nf cs j X Y).set (K + i) X' ++ Y' = _
  rw [bk_nf_set hK]
  unfold bk_nf
  rw [List.append_assoc]
theorem bn_callI {idx n i f mc1 ms1 : Nat} {As st0 : List Value} {M' : bw_M} {X' : va_E} {Y' : List va_E} (hK : cs.length = K) (hc : bk_ci M.1.cls idx n M') (hr : bk_run E f M' (.ref (K + i) :: As) (bk_nf cs j X Y) (bk_nf (bk_nf cs j X Y) (K + i) X' Y') mc1 ms1) (hn : As.length = n) (hst : st0 = As.reverse ++ .ref (K + i) :: st) (hw : (st.map fun v => v.category).sum ≤ 8) (hR : f + 1 ≤ R.frames ∧ 40 * (f + 1) ≤ R.locals) (h1 : n0 + mc1 ≤ R.cells ∧ k0 + ms1 ≤ R.slots) (hd : decode M.2.1 pc = .ok (.invokespecial idx, 3)) (kk : bk_G E R M (pc + 3) L st (bk_nf cs j X (Y.set i X' ++ Y')) (n0 + mc1) (k0 + ms1) mc ms cs2) : bk_G E R M pc L st0 (bk_nf cs j X Y) n0 k0 mc ms cs2 :=
  bk_callI hc hr hn hst hw hR h1 hd (by rw [bk_nf_nf hK]; exact kk)
theorem bn_callN {idx n x f : Nat} {As st0 : List Value} {M' : bw_M} {host : String} (hc : bk_cn M.1.cls idx n M' host) (hr : bk_run E f M' (.ref x :: As) (bk_nf cs j X Y) (bk_nf cs j X Y) 0 0) (hn : As.length = n) (hst : st0 = As.reverse ++ .ref x :: st) (hw : (st.map fun v => v.category).sum ≤ 8) (hR : f + 1 ≤ R.frames ∧ 40 * (f + 1) ≤ R.locals) (h1 : n0 + 0 ≤ R.cells ∧ k0 + 0 ≤ R.slots) (hd : decode M.2.1 pc = .ok (.invokespecial idx, 3)) (kk : bk_G E R M (pc + 3) L st (bk_nf cs j X Y) n0 k0 mc ms cs2) : bk_G E R M pc L st0 (bk_nf cs j X Y) n0 k0 mc ms cs2 :=
  bk_callN hc hr hn hst hw hR h1 hd kk
theorem bk_icge_no {x y : Int32} {off : Int} {tgt : Nat} (hd : decode M.2.1 pc = .ok (.if_icmp .ge off, 3)) (ht : (pc : Int) + off = (tgt : Int)) (h : ¬ (y ≤ x)) (kf : bk_G E R M (pc + 3) L st cs n0 k0 mc ms cs2) : bk_G E R M pc L (.int y :: .int x :: st) cs n0 k0 mc ms cs2 := bk_icmp_ge hd ht (fun z => absurd z h) (fun _ => kf)
theorem bk_icge_yes {x y : Int32} {off : Int} {tgt : Nat} (hd : decode M.2.1 pc = .ok (.if_icmp .ge off, 3)) (ht : (pc : Int) + off = (tgt : Int)) (h : y ≤ x) (kf : bk_G E R M tgt L st cs n0 k0 mc ms cs2) : bk_G E R M pc L (.int y :: .int x :: st) cs n0 k0 mc ms cs2 := bk_icmp_ge hd ht (fun _ => kf) (fun z => absurd h z)
end BKN
