section BWT
variable {E : bw_E} {d : Nat} {M : bw_M} {pc : Nat} {L : List (Option Value)} {st : List Value} {w : bw_W} {Q : Option Value → bw_W → Prop}
def bw_b (b : Bool) : Int32 := if b then 1 else 0
theorem bw_b_t : bw_b true = 1 := rfl
theorem bw_b_f : bw_b false = 0 := rfl
theorem bw_nb (b : Bool) : narrow .boolean (.int (bw_b b)) = .int (bw_b b) := by cases b <;> decide
theorem bw_fb (b : Bool) : fits .boolean (.int (bw_b b)) = true := by cases b <;> decide
def bw_qi (Q : Int32 → bw_W → Prop) : Option Value → bw_W → Prop := fun r w' => ∃ v, r = some (.int v) ∧ Q v w'
def bw_qb (Q : Bool → bw_W → Prop) : Option Value → bw_W → Prop := fun r w' => ∃ b, r = some (.int (bw_b b)) ∧ Q b w'
def bw_ql (Q : Int64 → bw_W → Prop) : Option Value → bw_W → Prop := fun r w' => ∃ v, r = some (.long v) ∧ Q v w'
def bw_qv (Q : bw_W → Prop) : Option Value → bw_W → Prop := fun r w' => r = none ∧ Q w'
def bw_ri (E : bw_E) (d : Nat) (M : bw_M) (A : List Value) (w : bw_W) (Q : Int32 → bw_W → Prop) : Prop := bw_run E d M A w (bw_qi Q)
def bw_rb (E : bw_E) (d : Nat) (M : bw_M) (A : List Value) (w : bw_W) (Q : Bool → bw_W → Prop) : Prop := bw_run E d M A w (bw_qb Q)
def bw_rl (E : bw_E) (d : Nat) (M : bw_M) (A : List Value) (w : bw_W) (Q : Int64 → bw_W → Prop) : Prop := bw_run E d M A w (bw_ql Q)
def bw_rv (E : bw_E) (d : Nat) (M : bw_M) (A : List Value) (w : bw_W) (Q : bw_W → Prop) : Prop := bw_run E d M A w (bw_qv Q)
theorem bw_wk (ks : List Nat) {L' : List (Option Value)} (hl : ks.foldl (fun a k => a.set k none) L = L') (h : bw_G E d M pc L' st w Q) : bw_G E d M pc L st w Q := by
  refine bw_weak (L' := L') ?_ h
  subst hl
  clear h
  induction ks generalizing L with
  | nil => intro i v h; exact h
  | cons k ks ih =>
    intro i v h
    have h1 := ih (L := L.set k none) i v h
    rw [List.getElem?_set] at h1
    by_cases hk : k = i
    · rw [if_pos hk] at h1
      split at h1 <;> cases h1
    · rw [if_neg hk] at h1
      exact h1
theorem bw_ifb_eq {b : Bool} {off : Int} {tgt : Nat} (hd : decode M.2.1 pc = .ok (.ifCond .eq off, 3)) (ht : (pc : Int) + off = (tgt : Int)) (kt : b = false → bw_G E d M tgt L st w Q) (kf : b = true → bw_G E d M (pc + 3) L st w Q) : bw_G E d M pc L (.int (bw_b b) :: st) w Q :=
  bw_if_eq hd ht (fun h => kt (by cases b; rfl; exact absurd h (by decide))) (fun h => kf (by cases b; exact absurd rfl h; rfl))
theorem bw_ifb_ne {b : Bool} {off : Int} {tgt : Nat} (hd : decode M.2.1 pc = .ok (.ifCond .ne off, 3)) (ht : (pc : Int) + off = (tgt : Int)) (kt : b = true → bw_G E d M tgt L st w Q) (kf : b = false → bw_G E d M (pc + 3) L st w Q) : bw_G E d M pc L (.int (bw_b b) :: st) w Q :=
  bw_if_ne hd ht (fun h => kt (by cases b; exact absurd rfl h; rfl)) (fun h => kf (by cases b; rfl; exact absurd h (by decide)))
/-! longs compared: lcmp and the branch behind it, in one row -/
theorem lg_cmp_eq0 {x y : Int64} : lg_cmp x y = 0 ↔ x = y := by
  unfold lg_cmp
  constructor
  · intro h
    split at h
    · exact absurd h (by decide)
    · split at h
      · assumption
      · exact absurd h (by decide)
  · intro h
    subst h
    simp
theorem bw_lcmp_eq {x y : Int64} {off : Int} {tgt : Nat} (hd0 : decode M.2.1 pc = .ok (.lcmp, 1)) (hd : decode M.2.1 (pc + 1) = .ok (.ifCond .eq off, 3)) (ht : ((pc + 1 : Nat) : Int) + off = (tgt : Int)) (kt : x = y → bw_G E d M tgt L st w Q) (kf : ¬ x = y → bw_G E d M (pc + 1 + 3) L st w Q) : bw_G E d M pc L (.long y :: .long x :: st) w Q :=
  bw_lcmp hd0 (bw_if_eq hd ht (fun h => kt (lg_cmp_eq0.mp h)) (fun h => kf (fun q => h (lg_cmp_eq0.mpr q))))
theorem bw_lcmp_ne {x y : Int64} {off : Int} {tgt : Nat} (hd0 : decode M.2.1 pc = .ok (.lcmp, 1)) (hd : decode M.2.1 (pc + 1) = .ok (.ifCond .ne off, 3)) (ht : ((pc + 1 : Nat) : Int) + off = (tgt : Int)) (kt : ¬ x = y → bw_G E d M tgt L st w Q) (kf : x = y → bw_G E d M (pc + 1 + 3) L st w Q) : bw_G E d M pc L (.long y :: .long x :: st) w Q :=
  bw_lcmp hd0 (bw_if_ne hd ht (fun h => kt (fun q => h (lg_cmp_eq0.mpr q))) (fun h => kf (lg_cmp_eq0.mp h)))
theorem lg_cmp_le0 {x y : Int64} : lg_cmp x y ≤ 0 ↔ x ≤ y := by
  unfold lg_cmp
  constructor
  · intro h
    split at h
    · exact absurd h (by decide)
    · rename_i h1
      exact Int64.not_lt.mp h1
  · intro h
    have h1 : ¬ x > y := Int64.not_lt.mpr h
    rw [if_neg h1]
    split <;> decide
theorem bw_lcmp_le {x y : Int64} {off : Int} {tgt : Nat} (hd0 : decode M.2.1 pc = .ok (.lcmp, 1)) (hd : decode M.2.1 (pc + 1) = .ok (.ifCond .le off, 3)) (ht : ((pc + 1 : Nat) : Int) + off = (tgt : Int)) (kt : x ≤ y → bw_G E d M tgt L st w Q) (kf : ¬ x ≤ y → bw_G E d M (pc + 1 + 3) L st w Q) : bw_G E d M pc L (.long y :: .long x :: st) w Q :=
  bw_lcmp hd0 (bw_if_le hd ht (fun h => kt (lg_cmp_le0.mp h)) (fun h => kf (fun q => h (lg_cmp_le0.mpr q))))
theorem bw_ldcs {k idx : Nat} {tx : String} (hz : (M.1.cls, idx, tx, k) ∈ bw_strs) (hd : decode M.2.1 pc = .ok (.ldc idx, 2)) (kk : bw_G E d M (pc + 2) L (.ref (1000 + k) :: st) w Q) : bw_G E d M pc L st w Q :=
  fun p l e s m args below meth c H locs ls hC hP hS hL => va_ldcS hC.1 hC.2.1 hC.2.2.2.2.1 (hC.2.2.2.2.2.2.2.2.2.2.2.2.1 _ hz) hd (kk p l e s m args below meth c H locs ls hC hP hS hL)
theorem bw_ti {x v : Int32} {n : Int} (h : x.toInt = n) (hv : Int32.ofInt n = v) : x = v := by
  rw [← hv, ← h, Int32.ofInt_toInt]
theorem bw_tabsw {dflt lo hi : Int} {offs : Array Int} {len : Nat} {x : Int32} (hd : decode M.2.1 pc = .ok (.tableswitch dflt lo hi offs, len)) (tg : List Nat) (td : Nat) (hl : lo + tg.length = hi + 1) (ht : offs.toList.map (fun o => (pc : Int) + o) = tg.map (fun t : Nat => (t : Int))) (htd : (pc : Int) + dflt = (td : Int)) (kin : ∀ j, j < tg.length → x.toInt = lo + j → bw_G E d M (tg.getD j 0) L st w Q) (kout : x.toInt < lo ∨ hi < x.toInt → bw_G E d M td L st w Q) : bw_G E d M pc L (.int x :: st) w Q := by
  by_cases h : x.toInt < lo ∨ hi < x.toInt
  · exact bw_tableOut hd h htd (kout h)
  · have h1 : ¬ x.toInt < lo := fun q => h (Or.inl q)
    have h2 : ¬ hi < x.toInt := fun q => h (Or.inr q)
    have hj : (x.toInt - lo).toNat < tg.length := by omega
    have hlen : offs.toList.length = tg.length := by
      have := congrArg List.length ht
      simpa using this
    have hj2 : (x.toInt - lo).toNat < offs.toList.length := by omega
    have ho : offs[(x.toInt - lo).toNat]? = some (offs.toList[(x.toInt - lo).toNat]) := by
      rw [← Array.getElem?_toList, List.getElem?_eq_getElem hj2]
    refine bw_tableIn (tgt := tg.getD (x.toInt - lo).toNat 0) hd h1 h2 ho ?_ (kin _ hj (by omega))
    have h3 := congrArg (fun l => l[(x.toInt - lo).toNat]?) ht
    simp only [List.getElem?_map, List.getElem?_eq_getElem hj2, List.getElem?_eq_getElem hj, Option.map_some] at h3
    rw [List.getD_eq_getElem?_getD, List.getElem?_eq_getElem hj]
    exact Option.some.inj h3
/-- the default of a lookupswitch -/
theorem bw_lkd {x : Int} {dflt : Int} : ∀ (ps : List (Int × Int)), (∀ q ∈ ps, ¬ q.1 = x) → Op.lookupswitch.offset ps dflt x = dflt
  | [], _ => rfl
  | (a, o) :: r, h => by
    rw [Op.lookupswitch.offset_cons, if_neg (h (a, o) List.mem_cons_self)]
    exact bw_lkd r (fun q hq => h q (List.mem_cons_of_mem _ hq))
theorem bw_lookE {dflt : Int} {ps : Array (Int × Int)} {len : Nat} {x v : Int32} {off : Int} {tgt : Nat} (hd : decode M.2.1 pc = .ok (.lookupswitch dflt ps, len)) (hx : x = v) (hp : (ps.toList.zip (ps.toList.drop 1)).all (fun (a, next) => a.1 < next.1) = true) (ho : Op.lookupswitch.offset ps.toList dflt v.toInt = off) (ht : (pc : Int) + off = (tgt : Int)) (k : bw_G E d M tgt L st w Q) : bw_G E d M pc L (.int x :: st) w Q := by
  subst hx
  exact bw_lookup hd hp ho ht k
theorem bw_lookD {dflt : Int} {ps : Array (Int × Int)} {len : Nat} {x : Int32} {tgt : Nat} (hd : decode M.2.1 pc = .ok (.lookupswitch dflt ps, len)) (hp : (ps.toList.zip (ps.toList.drop 1)).all (fun (a, next) => a.1 < next.1) = true) (hx : ∀ q ∈ ps.toList, ¬ q.1 = x.toInt) (ht : (pc : Int) + dflt = (tgt : Int)) (k : bw_G E d M tgt L st w Q) : bw_G E d M pc L (.int x :: st) w Q :=
  bw_lookup hd hp (bw_lkd _ hx) ht k
theorem bw_nei {x v : Int32} {n : Int} (h : ¬ x = v) (hv : v.toInt = n) : ¬ n = x.toInt := fun q => h (by rw [← Int32.toInt_inj]; rw [hv]; exact q.symm)
/-! calls of a nest mate's private static method -/
def bw_cn (own : String) (idx n : Nat) (M' : bw_M) : Prop := (∃ host : String, (own, idx, M'.1, host) ∈ bw_nest) ∧ Cond.static M'.1 ∈ bw_tbl ∧ Cond.initialized M'.1.cls ∈ bw_tbl ∧ Cond.code M'.1 M'.2.1 M'.2.2.1 M'.2.2.2 ∈ bw_tbl ∧ (M'.1.cls ≠ "java/lang/invoke/MethodHandle" ∧ M'.1.cls ≠ "java/lang/invoke/VarHandle" ∧ (parseMethodDescriptor M'.1.desc).map (fun d => d.parameters.length) = some n) ∧ M'.2.2.1 ≤ 21
theorem bw_callN {idx n : Nat} {As st0 : List Value} {M' : bw_M} {Q' : Option Value → bw_W → Prop} (hc : bw_cn M.1.cls idx n M') (hr : bw_run E d M' As w Q') (hn : As.length = n) (hst : st0 = As.reverse ++ st) (hw : (st.map fun v => v.category).sum ≤ 8) (hd : decode M.2.1 pc = .ok (.invokestatic idx, 3)) (kk : ∀ r w', Q' r w' → bw_G E (d + 1) M (pc + 3) L (r.toList ++ st) w' Q) : bw_G E (d + 1) M pc L st0 w Q := by
  intro p l e s m args below meth c H locs ls hC hP hS hL
  obtain ⟨⟨host, c1⟩, c2, c4, c5, c6, c7⟩ := hc
  have ht := hC.2.2.2.2.2.1
  have hcat : ∀ l : List Value, ((l.map (bw_v E)).map fun v => v.category) = l.map fun v => v.category := by
    intro l
    rw [List.map_map]
    exact List.map_congr_left (fun v _ => bw_v_cat E v)
  subst hst
  have := va_runSN (p := p) (l := l) (e := e) (below := below) (meth := meth) (R := bw_R (d + 1)) (As := As.map (bw_v E)) (rest := st.map (bw_v E)) (g := F0 m pc ls ((As.reverse ++ st).map (bw_v E))) (cells := 0) (slots := 0) (locs := locs) (S := ⟨hC.1, hC.2.1, hC.2.2.1, hC.2.2.2.2.1, ht⟩) (hr l) (index := idx) (n := n) (bytes := M'.2.1) (maxL := M'.2.2.1) (ret := M'.2.2.2) (H := H) (host := host)
    ⟨va_cnB n ht (bw_gw c5) rfl rfl rfl (hC.2.2.2.2.2.2.2.2.2.2.2.2.2.1 _ c1) (ht _ c4) c6 ⟨Nat.le_refl _, by show 8 + (M'.2.2.1 + 11) + 40 * d ≤ 40 * (d + 1); omega⟩, ht _ c2, trivial⟩
    ⟨bw_blind E _ w, bw_pre As hC hP hS⟩ rfl (by rw [List.length_map]; exact hn) hL.1 (by simp) (by rw [hcat]; simpa [JFrame.monitorRoom] using hw) hd ⟨Nat.le_refl _, Nat.le_refl _⟩
  exact bw_back (st := st) (Q' := Q') hC hS hL this kk
/-! typed calls -/
theorem bw_cVi {idx n : Nat} {b ci nf : Nat} {As st0 : List Value} {M' : bw_M} {Q' : Int32 → bw_W → Prop} (hc : bw_cv M.1.cls idx n M') (hs : bw_sh b = (0, ci, nf)) (hcl : (bw_cls[ci]?).map (fun q => q.1) = some M'.1.cls) (hr : bw_ri E d M' (.ref b :: As) w Q') (hn : As.length = n) (hst : st0 = As.reverse ++ .ref b :: st) (hw : (st.map fun v => v.category).sum ≤ 8) (hd : decode M.2.1 pc = .ok (.invokevirtual idx, 3)) (kk : ∀ v w', Q' v w' → bw_G E (d + 1) M (pc + 3) L (.int v :: st) w' Q) : bw_G E (d + 1) M pc L st0 w Q :=
  bw_callV hc hs hcl hr hn hst hw hd (fun r w' ⟨v, hv, hq⟩ => by subst hv; exact kk v w' hq)
theorem bw_cSi {idx n : Nat} {As st0 : List Value} {M' : bw_M} {Q' : Int32 → bw_W → Prop} (hc : bw_cs M.1.cls idx n M') (hr : bw_ri E d M' As w Q') (hn : As.length = n) (hst : st0 = As.reverse ++ st) (hw : (st.map fun v => v.category).sum ≤ 8) (hd : decode M.2.1 pc = .ok (.invokestatic idx, 3)) (kk : ∀ v w', Q' v w' → bw_G E (d + 1) M (pc + 3) L (.int v :: st) w' Q) : bw_G E (d + 1) M pc L st0 w Q :=
  bw_callS hc hr hn hst hw hd (fun r w' ⟨v, hv, hq⟩ => by subst hv; exact kk v w' hq)
theorem bw_cNi {idx n : Nat} {As st0 : List Value} {M' : bw_M} {Q' : Int32 → bw_W → Prop} (hc : bw_cn M.1.cls idx n M') (hr : bw_ri E d M' As w Q') (hn : As.length = n) (hst : st0 = As.reverse ++ st) (hw : (st.map fun v => v.category).sum ≤ 8) (hd : decode M.2.1 pc = .ok (.invokestatic idx, 3)) (kk : ∀ v w', Q' v w' → bw_G E (d + 1) M (pc + 3) L (.int v :: st) w' Q) : bw_G E (d + 1) M pc L st0 w Q :=
  bw_callN hc hr hn hst hw hd (fun r w' ⟨v, hv, hq⟩ => by subst hv; exact kk v w' hq)
theorem bw_cVb {idx n : Nat} {b ci nf : Nat} {As st0 : List Value} {M' : bw_M} {Q' : Bool → bw_W → Prop} (hc : bw_cv M.1.cls idx n M') (hs : bw_sh b = (0, ci, nf)) (hcl : (bw_cls[ci]?).map (fun q => q.1) = some M'.1.cls) (hr : bw_rb E d M' (.ref b :: As) w Q') (hn : As.length = n) (hst : st0 = As.reverse ++ .ref b :: st) (hw : (st.map fun v => v.category).sum ≤ 8) (hd : decode M.2.1 pc = .ok (.invokevirtual idx, 3)) (kk : ∀ v w', Q' v w' → bw_G E (d + 1) M (pc + 3) L (.int (bw_b v) :: st) w' Q) : bw_G E (d + 1) M pc L st0 w Q :=
  bw_callV hc hs hcl hr hn hst hw hd (fun r w' ⟨v, hv, hq⟩ => by subst hv; exact kk v w' hq)
theorem bw_cSb {idx n : Nat} {As st0 : List Value} {M' : bw_M} {Q' : Bool → bw_W → Prop} (hc : bw_cs M.1.cls idx n M') (hr : bw_rb E d M' As w Q') (hn : As.length = n) (hst : st0 = As.reverse ++ st) (hw : (st.map fun v => v.category).sum ≤ 8) (hd : decode M.2.1 pc = .ok (.invokestatic idx, 3)) (kk : ∀ v w', Q' v w' → bw_G E (d + 1) M (pc + 3) L (.int (bw_b v) :: st) w' Q) : bw_G E (d + 1) M pc L st0 w Q :=
  bw_callS hc hr hn hst hw hd (fun r w' ⟨v, hv, hq⟩ => by subst hv; exact kk v w' hq)
theorem bw_cNb {idx n : Nat} {As st0 : List Value} {M' : bw_M} {Q' : Bool → bw_W → Prop} (hc : bw_cn M.1.cls idx n M') (hr : bw_rb E d M' As w Q') (hn : As.length = n) (hst : st0 = As.reverse ++ st) (hw : (st.map fun v => v.category).sum ≤ 8) (hd : decode M.2.1 pc = .ok (.invokestatic idx, 3)) (kk : ∀ v w', Q' v w' → bw_G E (d + 1) M (pc + 3) L (.int (bw_b v) :: st) w' Q) : bw_G E (d + 1) M pc L st0 w Q :=
  bw_callN hc hr hn hst hw hd (fun r w' ⟨v, hv, hq⟩ => by subst hv; exact kk v w' hq)
theorem bw_cVl {idx n : Nat} {b ci nf : Nat} {As st0 : List Value} {M' : bw_M} {Q' : Int64 → bw_W → Prop} (hc : bw_cv M.1.cls idx n M') (hs : bw_sh b = (0, ci, nf)) (hcl : (bw_cls[ci]?).map (fun q => q.1) = some M'.1.cls) (hr : bw_rl E d M' (.ref b :: As) w Q') (hn : As.length = n) (hst : st0 = As.reverse ++ .ref b :: st) (hw : (st.map fun v => v.category).sum ≤ 8) (hd : decode M.2.1 pc = .ok (.invokevirtual idx, 3)) (kk : ∀ v w', Q' v w' → bw_G E (d + 1) M (pc + 3) L (.long v :: st) w' Q) : bw_G E (d + 1) M pc L st0 w Q :=
  bw_callV hc hs hcl hr hn hst hw hd (fun r w' ⟨v, hv, hq⟩ => by subst hv; exact kk v w' hq)
theorem bw_cSl {idx n : Nat} {As st0 : List Value} {M' : bw_M} {Q' : Int64 → bw_W → Prop} (hc : bw_cs M.1.cls idx n M') (hr : bw_rl E d M' As w Q') (hn : As.length = n) (hst : st0 = As.reverse ++ st) (hw : (st.map fun v => v.category).sum ≤ 8) (hd : decode M.2.1 pc = .ok (.invokestatic idx, 3)) (kk : ∀ v w', Q' v w' → bw_G E (d + 1) M (pc + 3) L (.long v :: st) w' Q) : bw_G E (d + 1) M pc L st0 w Q :=
  bw_callS hc hr hn hst hw hd (fun r w' ⟨v, hv, hq⟩ => by subst hv; exact kk v w' hq)
theorem bw_cNl {idx n : Nat} {As st0 : List Value} {M' : bw_M} {Q' : Int64 → bw_W → Prop} (hc : bw_cn M.1.cls idx n M') (hr : bw_rl E d M' As w Q') (hn : As.length = n) (hst : st0 = As.reverse ++ st) (hw : (st.map fun v => v.category).sum ≤ 8) (hd : decode M.2.1 pc = .ok (.invokestatic idx, 3)) (kk : ∀ v w', Q' v w' → bw_G E (d + 1) M (pc + 3) L (.long v :: st) w' Q) : bw_G E (d + 1) M pc L st0 w Q :=
  bw_callN hc hr hn hst hw hd (fun r w' ⟨v, hv, hq⟩ => by subst hv; exact kk v w' hq)
theorem bw_cVv {idx n : Nat} {b ci nf : Nat} {As st0 : List Value} {M' : bw_M} {Q' : bw_W → Prop} (hc : bw_cv M.1.cls idx n M') (hs : bw_sh b = (0, ci, nf)) (hcl : (bw_cls[ci]?).map (fun q => q.1) = some M'.1.cls) (hr : bw_rv E d M' (.ref b :: As) w Q') (hn : As.length = n) (hst : st0 = As.reverse ++ .ref b :: st) (hw : (st.map fun v => v.category).sum ≤ 8) (hd : decode M.2.1 pc = .ok (.invokevirtual idx, 3)) (kk : ∀ w', Q' w' → bw_G E (d + 1) M (pc + 3) L st w' Q) : bw_G E (d + 1) M pc L st0 w Q :=
  bw_callV hc hs hcl hr hn hst hw hd (fun r w' ⟨hv, hq⟩ => by subst hv; exact kk w' hq)
theorem bw_cSv {idx n : Nat} {As st0 : List Value} {M' : bw_M} {Q' : bw_W → Prop} (hc : bw_cs M.1.cls idx n M') (hr : bw_rv E d M' As w Q') (hn : As.length = n) (hst : st0 = As.reverse ++ st) (hw : (st.map fun v => v.category).sum ≤ 8) (hd : decode M.2.1 pc = .ok (.invokestatic idx, 3)) (kk : ∀ w', Q' w' → bw_G E (d + 1) M (pc + 3) L st w' Q) : bw_G E (d + 1) M pc L st0 w Q :=
  bw_callS hc hr hn hst hw hd (fun r w' ⟨hv, hq⟩ => by subst hv; exact kk w' hq)
theorem bw_cNv {idx n : Nat} {As st0 : List Value} {M' : bw_M} {Q' : bw_W → Prop} (hc : bw_cn M.1.cls idx n M') (hr : bw_rv E d M' As w Q') (hn : As.length = n) (hst : st0 = As.reverse ++ st) (hw : (st.map fun v => v.category).sum ≤ 8) (hd : decode M.2.1 pc = .ok (.invokestatic idx, 3)) (kk : ∀ w', Q' w' → bw_G E (d + 1) M (pc + 3) L st w' Q) : bw_G E (d + 1) M pc L st0 w Q :=
  bw_callN hc hr hn hst hw hd (fun r w' ⟨hv, hq⟩ => by subst hv; exact kk w' hq)
/-! arraycopy of a row's first n places -/
def bw_cc (own : String) (idx : Nat) : Prop := Cond.methodLink own idx arraycopyName ∈ bw_tbl ∧ Cond.native arraycopyName ∈ bw_tbl ∧ Cond.static arraycopyName ∈ bw_tbl ∧ Cond.initialized "java/lang/System" ∈ bw_tbl
theorem bw_copyi {idx a b n0 n1 x0 x1 k : Nat} {n : Int32} {f : Nat → Int32} (hfe : (fun j => if j < k then w.1 a j else w.1 b j) = f) (hc : bw_cc M.1.cls idx) (ha : bw_sh a = (1, n0, x0)) (hb : bw_sh b = (1, n1, x1)) (hn : n = nI k) (hk : k < 2 ^ 31) (h0 : k ≤ n0) (h1 : k ≤ n1) (hw : (st.map fun v => v.category).sum ≤ 4) (hd : decode M.2.1 pc = .ok (.invokestatic idx, 3)) (kk : bw_G E (d + 1) M (pc + 3) L st (cw_i w b f) Q) : bw_G E (d + 1) M pc L (.int n :: .int 0 :: .ref b :: .int 0 :: .ref a :: st) w Q := by
  intro p l e s m args below meth c H locs ls hC hP hS hL
  subst hfe
  obtain ⟨c1, c2, c3, c4⟩ := hc
  have ht := hC.2.2.2.2.2.1
  have hcat : ((st.map (bw_v E)).map fun v => v.category) = st.map fun v => v.category := by
    rw [List.map_map]
    exact List.map_congr_left (fun v _ => bw_v_cat E v)
  have hnk : n.toNatClampNeg = k := by rw [hn]; exact nI_clamp hk
  have hz : (0 : Int32).toNatClampNeg = 0 := rfl
  have hloc : ((st.map (bw_v E)).map fun v => v.category).sum + (nativeFrameWords "java/lang/System" "arraycopy" 5 + 11) ≤ (bw_R (d + 1)).locals := by
    rw [hcat]
    show _ ≤ 40 * (d + 1)
    have h9 : nativeFrameWords "java/lang/System" "arraycopy" 5 + 11 ≤ 36 := by decide +kernel
    omega
  refine va_copyi (ty := .int) (sp := 0) (dp := 0) (n := n) hC.1 hC.2.1 (hC.2.2.1.trans hL.1.symm) hC.2.2.2.2.1 (ht _ c1) (ht _ c2) (ht _ c3) (ht _ c4) hC.2.2.2.2.2.2.2.1 hP (bw_D hC.2.2.2.2.2.2.2.2.1 w) hS a b 0 0 (bw_arri ha) (bw_arri hb) rfl rfl rfl (by decide) (by decide) (by rw [hn]; exact nI_pos hk) (by rw [hnk, hz]; omega) (by rw [hnk, hz]; omega) (fun i _ => rfl) (by show 1 ≤ d + 1; omega) hloc hd (fun H1 locs1 hP1 hD1 hS1 => ?_)
  refine kk p l e s m args below meth c H1 locs1 ls hC ?_ hS1 hL
  rw [bw_ws_set (w' := cw_i w b (fun j => if j < k then w.1 a j else w.1 b j)) (bw_lt hb (by decide)) ?_ ?_] at hP1
  · exact hP1
  · rw [hb]
    simp only [bw_ce, cw_i, if_true]
    rw [hnk, hz]
    unfold va_cpy
    simp
  · intro j hj
    simp only [cw_i, if_neg hj, and_self]
theorem bw_copyc {idx a b n0 n1 x0 x1 k : Nat} {n : Int32} {f : Nat → Int32} (hfe : (fun j => if j < k then w.1 a j else w.1 b j) = f) (hc : bw_cc M.1.cls idx) (ha : bw_sh a = (3, n0, x0)) (hb : bw_sh b = (3, n1, x1)) (hn : n = nI k) (hk : k < 2 ^ 31) (h0 : k ≤ n0) (h1 : k ≤ n1) (hfit : ∀ i, i < k → fits .char (.int (w.1 a i)) = true) (hw : (st.map fun v => v.category).sum ≤ 4) (hd : decode M.2.1 pc = .ok (.invokestatic idx, 3)) (kk : bw_G E (d + 1) M (pc + 3) L st (cw_i w b f) Q) : bw_G E (d + 1) M pc L (.int n :: .int 0 :: .ref b :: .int 0 :: .ref a :: st) w Q := by
  intro p l e s m args below meth c H locs ls hC hP hS hL
  subst hfe
  obtain ⟨c1, c2, c3, c4⟩ := hc
  have ht := hC.2.2.2.2.2.1
  have hcat : ((st.map (bw_v E)).map fun v => v.category) = st.map fun v => v.category := by
    rw [List.map_map]
    exact List.map_congr_left (fun v _ => bw_v_cat E v)
  have hnk : n.toNatClampNeg = k := by rw [hn]; exact nI_clamp hk
  have hz : (0 : Int32).toNatClampNeg = 0 := rfl
  have hloc : ((st.map (bw_v E)).map fun v => v.category).sum + (nativeFrameWords "java/lang/System" "arraycopy" 5 + 11) ≤ (bw_R (d + 1)).locals := by
    rw [hcat]
    show _ ≤ 40 * (d + 1)
    have h9 : nativeFrameWords "java/lang/System" "arraycopy" 5 + 11 ≤ 36 := by decide +kernel
    omega
  refine va_copyi (ty := .char) (sp := 0) (dp := 0) (n := n) hC.1 hC.2.1 (hC.2.2.1.trans hL.1.symm) hC.2.2.2.2.1 (ht _ c1) (ht _ c2) (ht _ c3) (ht _ c4) hC.2.2.2.2.2.2.2.1 hP (bw_D hC.2.2.2.2.2.2.2.2.1 w) hS a b 2 2 (bw_arrc ha) (bw_arrc hb) rfl rfl rfl (by decide) (by decide) (by rw [hn]; exact nI_pos hk) (by rw [hnk, hz]; omega) (by rw [hnk, hz]; omega) (fun i hi => by rw [hz, Nat.zero_add]; exact hfit i (by rw [hnk] at hi; exact hi)) (by show 1 ≤ d + 1; omega) hloc hd (fun H1 locs1 hP1 hD1 hS1 => ?_)
  refine kk p l e s m args below meth c H1 locs1 ls hC ?_ hS1 hL
  rw [bw_ws_set (w' := cw_i w b (fun j => if j < k then w.1 a j else w.1 b j)) (bw_lt hb (by decide)) ?_ ?_] at hP1
  · exact hP1
  · rw [hb]
    simp only [bw_ce, cw_i, if_true]
    rw [hnk, hz]
    unfold va_cpy
    simp
  · intro j hj
    simp only [cw_i, if_neg hj, and_self]
theorem bw_copyl {idx a b n0 n1 x0 x1 k : Nat} {n : Int32} {f : Nat → Int64} (hfe : (fun j => if j < k then w.2 a j else w.2 b j) = f) (hc : bw_cc M.1.cls idx) (ha : bw_sh a = (2, n0, x0)) (hb : bw_sh b = (2, n1, x1)) (hn : n = nI k) (hk : k < 2 ^ 31) (h0 : k ≤ n0) (h1 : k ≤ n1) (hw : (st.map fun v => v.category).sum ≤ 4) (hd : decode M.2.1 pc = .ok (.invokestatic idx, 3)) (kk : bw_G E (d + 1) M (pc + 3) L st (cw_l w b f) Q) : bw_G E (d + 1) M pc L (.int n :: .int 0 :: .ref b :: .int 0 :: .ref a :: st) w Q := by
  intro p l e s m args below meth c H locs ls hC hP hS hL
  subst hfe
  obtain ⟨c1, c2, c3, c4⟩ := hc
  have ht := hC.2.2.2.2.2.1
  have hcat : ((st.map (bw_v E)).map fun v => v.category) = st.map fun v => v.category := by
    rw [List.map_map]
    exact List.map_congr_left (fun v _ => bw_v_cat E v)
  have hnk : n.toNatClampNeg = k := by rw [hn]; exact nI_clamp hk
  have hz : (0 : Int32).toNatClampNeg = 0 := rfl
  have hloc : ((st.map (bw_v E)).map fun v => v.category).sum + (nativeFrameWords "java/lang/System" "arraycopy" 5 + 11) ≤ (bw_R (d + 1)).locals := by
    rw [hcat]
    show _ ≤ 40 * (d + 1)
    have h9 : nativeFrameWords "java/lang/System" "arraycopy" 5 + 11 ≤ 36 := by decide +kernel
    omega
  refine va_copyl (ty := .long) (sp := 0) (dp := 0) (n := n) hC.1 hC.2.1 (hC.2.2.1.trans hL.1.symm) hC.2.2.2.2.1 (ht _ c1) (ht _ c2) (ht _ c3) (ht _ c4) hC.2.2.2.2.2.2.2.1 hP (bw_D hC.2.2.2.2.2.2.2.2.1 w) hS a b 1 1 (bw_arrl ha) (bw_arrl hb) rfl rfl rfl (by decide) (by decide) (by rw [hn]; exact nI_pos hk) (by rw [hnk, hz]; omega) (by rw [hnk, hz]; omega) (fun i _ => rfl) (by show 1 ≤ d + 1; omega) hloc hd (fun H1 locs1 hP1 hD1 hS1 => ?_)
  refine kk p l e s m args below meth c H1 locs1 ls hC ?_ hS1 hL
  rw [bw_ws_set (w' := cw_l w b (fun j => if j < k then w.2 a j else w.2 b j)) (bw_lt hb (by decide)) ?_ ?_] at hP1
  · exact hP1
  · rw [hb]
    simp only [bw_ce, cw_l, if_true]
    rw [hnk, hz]
    unfold va_cpy
    simp
  · intro j hj
    simp only [cw_l, if_neg hj, and_self]
end BWT
/-! what is read behind a write -/
theorem gs_ii {w : bw_W} {c k c' k' : Nat} {v : Int32} : gw_i (sw_i w c k v) c' k' = if c' = c ∧ k' = k then v else gw_i w c' k' := by
  unfold gw_i sw_i cw_i
  by_cases h : c' = c
  · subst h
    by_cases h2 : k' = k <;> simp [h2]
  · simp [h]
theorem gs_ll {w : bw_W} {c k c' k' : Nat} {v : Int64} : gw_l (sw_l w c k v) c' k' = if c' = c ∧ k' = k then v else gw_l w c' k' := by
  unfold gw_l sw_l cw_l
  by_cases h : c' = c
  · subst h
    by_cases h2 : k' = k <;> simp [h2]
  · simp [h]
theorem gs_il {w : bw_W} {c k c' k' : Nat} {v : Int64} : gw_i (sw_l w c k v) c' k' = gw_i w c' k' := rfl
theorem gs_li {w : bw_W} {c k c' k' : Nat} {v : Int32} : gw_l (sw_i w c k v) c' k' = gw_l w c' k' := rfl
theorem gc_ii {w : bw_W} {c c' k' : Nat} {f : Nat → Int32} : gw_i (cw_i w c f) c' k' = if c' = c then f k' else gw_i w c' k' := by
  unfold gw_i cw_i
  by_cases h : c' = c <;> simp [h]
theorem gc_ll {w : bw_W} {c c' k' : Nat} {f : Nat → Int64} : gw_l (cw_l w c f) c' k' = if c' = c then f k' else gw_l w c' k' := by
  unfold gw_l cw_l
  by_cases h : c' = c <;> simp [h]
theorem gc_il {w : bw_W} {c c' k' : Nat} {f : Nat → Int64} : gw_i (cw_l w c f) c' k' = gw_i w c' k' := rfl
theorem gc_li {w : bw_W} {c c' k' : Nat} {f : Nat → Int32} : gw_l (cw_i w c f) c' k' = gw_l w c' k' := rfl
