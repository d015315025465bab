/-! what the Statement gives of the start, in the words of the worlds -/
def bs_tmL : List (String × Nat) := [("BentWords$LexiconReader", 57), ("BentWords$LexiconReader", 67), ("BentWords$LexiconReader", 72), ("BentWords$LexiconReader", 82), ("BentWords$LexiconReader", 87), ("BentWords$ScriptReader", 57), ("BentWords$ScriptReader", 76), ("BentWords$ScriptReader", 78), ("BentWords$ScriptReader", 88)]
def bs_tm (i : Nat) : Term := .string (bs_tmL.getD i ("", 0)).1 (bs_tmL.getD i ("", 0)).2
def bs_len : List Nat := [4, 4, 7, 7, 7, 4, 5, 6, 4]
def bs_byt : List (List Int32) := [[110, 111, 117, 110], [102, 111, 114, 109], [97, 114, 116, 105, 99, 108, 101], [112, 114, 111, 110, 111, 117, 110], [109, 101, 115, 115, 97, 103, 101], [102, 105, 108, 108], [101, 109, 112, 116, 121], [115, 116, 114, 105, 99, 116], [100, 114, 111, 112]]
def bs_F : List Cond := flatC (Jvm.Cond.and given_1 narrow_1)
theorem bs_ex : ∀ i, i < 9 → Cond.exactly (bs_tm i) "java/lang/String" ∈ bs_F := by decide +kernel
theorem bs_co : ∀ i, i < 9 → Cond.eq (.field (bs_tm i) "java/lang/String" "coder" "B") (.int 0) ∈ bs_F := by decide +kernel
theorem bs_ar : ∀ i, i < 9 → Cond.arrayOf (.field (bs_tm i) "java/lang/String" "value" "[B") .byte ∈ bs_F := by decide +kernel
theorem bs_le : ∀ i, i < 9 → Cond.eq (.length (.field (bs_tm i) "java/lang/String" "value" "[B")) (.int (Int32.ofNat (bs_len.getD i 0))) ∈ bs_F := by decide +kernel
theorem bs_el : ∀ i, i < 9 → ∀ j, j < bs_len.getD i 0 → Cond.eq (.elem (.field (bs_tm i) "java/lang/String" "value" "[B") (.int (Int32.ofNat j))) (.int ((bs_byt.getD i []).getD j 0)) ∈ bs_F := by decide +kernel
theorem bs_ne : ∀ i, i < 9 → ∀ j, j < 9 → i ≠ j → (Cond.not (Cond.eq (bs_tm i) (bs_tm j)) ∈ bs_F ∨ Cond.not (Cond.eq (bs_tm j) (bs_tm i)) ∈ bs_F) := by decide +kernel
theorem bs_sl : ∀ z ∈ bw_stat, Cond.laysStatic z.1 z.2.1 "J" ∈ lw_tbl := by decide +kernel
theorem bs_si : ∀ z ∈ bw_stat, Cond.initialized z.1 ∈ lw_tbl := by decide +kernel
theorem bs_sv : ∀ z ∈ bw_stat, Cond.eq (.static z.1 z.2.1 "J") (.long z.2.2) ∈ bs_F := by decide +kernel
theorem bs_sr : ∀ z ∈ bw_strs, Cond.stringRef z.1 z.2.1 z.2.2.1 ∈ lw_tbl := by decide +kernel
theorem bs_ns : ∀ z ∈ bw_nest, Cond.methodLinkNest z.1 z.2.1 z.2.2.1 z.2.2.2 ∈ lw_tbl := by decide +kernel
theorem bs_nk : ∀ z ∈ bk_nest, Cond.methodLinkNest z.1 z.2.1 z.2.2.1 z.2.2.2 ∈ lw_tbl := by decide +kernel
theorem bs_bd : ∀ z ∈ gj_bad, z ∈ lw_tbl := by decide +kernel
theorem bs_11 : Cond.laysStatic "java/lang/String" "COMPACT_STRINGS" "Z" ∈ lw_tbl ∧ Cond.initialized "java/lang/String" ∈ lw_tbl ∧ Cond.eq (.static "java/lang/String" "COMPACT_STRINGS" "Z") (.int 1) ∈ bs_F := by decide +kernel
theorem bs_12 : Cond.laysStatic "jdk/internal/util/Preconditions" "SIOOBE_FORMATTER" "Ljava/util/function/BiFunction;" ∈ lw_tbl ∧ Cond.initialized "jdk/internal/util/Preconditions" ∈ lw_tbl ∧ Cond.isRef (.static "jdk/internal/util/Preconditions" "SIOOBE_FORMATTER" "Ljava/util/function/BiFunction;") ∈ bs_F := by decide +kernel
theorem bs_13 : Cond.laysStatic Bundle.tN "UNASSIGNED_STACK" Bundle.steD ∈ lw_tbl ∧ Cond.initialized Bundle.tN ∈ lw_tbl ∧ Cond.isRef (.static Bundle.tN "UNASSIGNED_STACK" Bundle.steD) ∈ bs_F := by decide +kernel
theorem bs_14 : Cond.laysStatic Bundle.tN "SUPPRESSED_SENTINEL" Bundle.listD ∈ lw_tbl ∧ Cond.isRef (.static Bundle.tN "SUPPRESSED_SENTINEL" Bundle.listD) ∈ bs_F := by decide +kernel
theorem bs_15 : Cond.eq (.string "BentWords$LexiconReader" 67) (.string "BentWords$ScriptReader" 80) ∈ bs_F := by decide +kernel
theorem bs_16 : Cond.arrayOver (.object "BentWords$Script") ∈ lw_tbl ∧ Cond.arrayOver (.object "BentWords$Step") ∈ lw_tbl := by decide +kernel
theorem vk_S.congr {N : Nat} {len : List Nat} {byt : List (List Int32)} {aK aV bK bV : Nat → Nat} {A : Nat → Prop} {U : State} {H : Heap} (h : vk_S N len byt aK aV A U H) (h1 : ∀ i, i < N → bK i = aK i) (h2 : ∀ i, i < N → bV i = aV i) : vk_S N len byt bK bV A U H :=
  ⟨fun i hi => by rw [h1 i hi, h2 i hi]; exact h.1 i hi, fun i j hi hj e => h.2 i j hi hj (by rw [← h1 i hi, ← h1 j hj]; exact e)⟩
theorem bs_X {s : State} {b : Nat} (hts : ∀ w ∈ lw_tbl, w.before #[Value.ref b] s = true) : bk_X s :=
  ⟨fun z hz => va_Nw.of rfl (hts _ (bs_nk z hz)), va_AO.of (hts _ bs_16.1), va_AO.of (hts _ bs_16.2)⟩
theorem bs_O {s : State} {b : Nat} (hts : ∀ w ∈ lw_tbl, w.before #[Value.ref b] s = true) (hgv : (Jvm.Cond.and given_1 narrow_1).before #[Value.ref b] s = true) : ∃ str : Nat → Nat, str 4000 = b ∧ ∀ E : bw_E, (∀ i, 148 ≤ i → E.1 i = str i) → (∀ i, i < 148 → s.heap.size ≤ E.1 i) → bw_O E s ∧ gj_T E s := by
  have hs : ∀ c ∈ bs_F, c.before #[Value.ref b] s = true := flat_of_before _ hgv
  have hA0 : ∀ a : Nat, a < s.heap.size → ¬ (fun q => s.heap.size ≤ q) a := fun a h => Nat.not_le.mpr h
  obtain ⟨adK, adV, hS, hT⟩ := vk_Sof (args := #[Value.ref b]) (s := s) (N := 9) (tm := bs_tm) (len := bs_len) (byt := bs_byt) (A := fun q => s.heap.size ≤ q) (by decide) (fun i hi => hs _ (bs_ex i hi)) (fun i hi => hs _ (bs_co i hi)) (fun i hi => hs _ (bs_ar i hi)) (fun i hi => hs _ (bs_le i hi)) (fun i hi j hj => hs _ (bs_el i hi j hj)) (fun i j hi hj hne => (bs_ne i hi j hj hne).imp (hs _) (hs _)) hA0
  have hZ := va_Zqof (A := fun q => s.heap.size ≤ q) (hts _ bs_12.1) (hts _ bs_12.2.1) (hs _ bs_12.2.2) hA0
  obtain ⟨fm, hfm⟩ : ∃ fm : Nat, va_Z "jdk/internal/util/Preconditions" "SIOOBE_FORMATTER" "Ljava/util/function/BiFunction;" .null (fun q => s.heap.size ≤ q) s s.heap ∨ va_Z "jdk/internal/util/Preconditions" "SIOOBE_FORMATTER" "Ljava/util/function/BiFunction;" (.ref fm) (fun q => s.heap.size ≤ q) s s.heap := by
    rcases hZ with h | ⟨t, h⟩
    · exact ⟨0, Or.inl h⟩
    · exact ⟨t, Or.inr h⟩
  refine ⟨fun i => if i < 2000 then adK (i - 1000) else if i < 3000 then adV (i - 2000) else if i < 4000 then fm else b, rfl, fun E h1 h2 => ?_⟩
  have hAB : ∀ q, bw_A E q → s.heap.size ≤ q := by
    rintro q ⟨i, hi, rfl⟩
    exact h2 i hi
  have eK : ∀ i, i < 9 → E.1 (1000 + i) = adK i := fun i hi => by
    rw [h1 _ (by omega)]
    dsimp only
    rw [if_pos (by omega), show 1000 + i - 1000 = i by omega]
  have eV : ∀ i, i < 9 → E.1 (2000 + i) = adV i := fun i hi => by
    rw [h1 _ (by omega)]
    dsimp only
    rw [if_neg (by omega), if_pos (by omega), show 2000 + i - 2000 = i by omega]
  have eF : E.1 3000 = fm := by
    rw [h1 _ (by omega)]
    dsimp only
    rw [if_neg (by omega), if_neg (by omega), if_pos (by omega)]
  have hR : ∀ z ∈ bw_strs, (Term.string z.1 z.2.1).eval #[Value.ref b] s none [] s = some (.ref (E.1 (1000 + z.2.2.2))) := by
    intro z hz
    rcases List.mem_cons.mp hz with rfl | hz
    · rw [eK 0 (by decide)]; exact hT 0 (by decide)
    rcases List.mem_cons.mp hz with rfl | hz
    · rw [eK 1 (by decide)]; exact hT 1 (by decide)
    rcases List.mem_cons.mp hz with rfl | hz
    · rw [eK 2 (by decide)]; exact hT 2 (by decide)
    rcases List.mem_cons.mp hz with rfl | hz
    · rw [eK 3 (by decide)]; exact hT 3 (by decide)
    rcases List.mem_cons.mp hz with rfl | hz
    · rw [eK 4 (by decide)]; exact hT 4 (by decide)
    rcases List.mem_cons.mp hz with rfl | hz
    · rw [eK 5 (by decide)]; exact hT 5 (by decide)
    rcases List.mem_cons.mp hz with rfl | hz
    · rw [eK 6 (by decide)]; exact hT 6 (by decide)
    rcases List.mem_cons.mp hz with rfl | hz
    · rw [eK 7 (by decide)]; exact hT 7 (by decide)
    rcases List.mem_cons.mp hz with rfl | hz
    · rw [eK 1 (by decide)]; exact va_eqR (hs _ bs_15) (hT 1 (by decide))
    rcases List.mem_cons.mp hz with rfl | hz
    · rw [eK 8 (by decide)]; exact hT 8 (by decide)
    cases hz
  refine ⟨⟨fun z hz => ?_, ?_, ?_, fun z hz => ?_, fun z hz => ?_, ?_⟩, ?_, ?_, fun z hz => ?_⟩
  · exact (va_Zof (hts _ (bs_sl z hz)) (hts _ (bs_si z hz)) (va_eql (hs _ (bs_sv z hz))) hA0).narrow hAB
  · exact (va_Zof (hts _ bs_11.1) (hts _ bs_11.2.1) (va_eqi (hs _ bs_11.2.2)) hA0).narrow hAB
  · exact (hS.congr eK eV).narrow hAB
  · exact vk_R.of (hts _ (bs_sr z hz)) (hR z hz)
  · exact va_Nw.of rfl (hts _ (bs_ns z hz))
  · rw [eF]
    exact hfm.imp (fun h => h.narrow hAB) (fun h => h.narrow hAB)
  · exact (vx_Zqof (hts _ bs_13.1) (hts _ bs_13.2.1) (hs _ bs_13.2.2) hA0).narrow hAB
  · exact (vx_Zqof (hts _ bs_14.1) (hts _ bs_13.2.1) (hs _ bs_14.2) hA0).narrow hAB
  · exact va_Nw.of (gj_bad_on z hz) (hts _ (bs_bd z hz))
theorem bs_in : ∀ r ∈ bw_cls, ∀ w ∈ u_ws r.1 r.2.1 r.2.2, w ∈ bw_tbl := List.forall_mem_cons.mpr ⟨in_X0, List.forall_mem_cons.mpr ⟨in_X1, List.forall_mem_cons.mpr ⟨in_X2, List.forall_mem_cons.mpr ⟨in_X3, List.forall_mem_cons.mpr ⟨in_X4, List.forall_mem_cons.mpr ⟨in_X5, List.forall_mem_cons.mpr ⟨in_X6, List.forall_mem_cons.mpr ⟨in_X7, List.forall_mem_cons.mpr ⟨in_X8, List.forall_mem_cons.mpr ⟨in_X9, List.forall_mem_cons.mpr ⟨in_X10, List.forall_mem_cons.mpr ⟨in_X11, List.forall_mem_cons.mpr ⟨in_X12, fun _ h => absurd h List.not_mem_nil⟩⟩⟩⟩⟩⟩⟩⟩⟩⟩⟩⟩⟩
theorem bs_it : ∀ r ∈ bw_cls.map (fun r => (r.1, r.2.2)), Cond.instantiable r.1 r.2 ∈ lw_tbl := by decide +kernel
def bs_ty : List FieldType := [.int, .long, .char, .object "BentWords$Script", .object "BentWords$Step"]
theorem bs_ac : Cond.arrayClass .int ∈ lw_tbl ∧ Cond.arrayClass .long ∈ lw_tbl ∧ Cond.arrayClass .char ∈ lw_tbl := by decide +kernel
theorem bs_a1 {s : State} {args : Array Value} (h : (Cond.arrayClass .int).before args s = true) : ∃ cA : ClassId, ArrOfT s cA .int ∧ va_RA s cA .int := by
  obtain ⟨cA, kA, comp, hfind, hk, hkind⟩ := Cond.arrayClass_spec h
  exact ⟨cA, fun n z => ⟨fun k h => (by cases h), kA, hk, comp, hkind⟩, hfind⟩
theorem bs_a2 {s : State} {args : Array Value} (h : (Cond.arrayClass .long).before args s = true) : ∃ cA : ClassId, ArrOfT s cA .long ∧ va_RA s cA .long := by
  obtain ⟨cA, kA, comp, hfind, hk, hkind⟩ := Cond.arrayClass_spec h
  exact ⟨cA, fun n z => ⟨fun k h => (by cases h), kA, hk, comp, hkind⟩, hfind⟩
theorem bs_a3 {s : State} {args : Array Value} (h : (Cond.arrayClass .char).before args s = true) : ∃ cA : ClassId, ArrOfT s cA .char ∧ va_RA s cA .char := by
  obtain ⟨cA, kA, comp, hfind, hk, hkind⟩ := Cond.arrayClass_spec h
  exact ⟨cA, fun n z => ⟨fun k h => (by cases h), kA, hk, comp, hkind⟩, hfind⟩
theorem bs_a4 {s : State} {C : String} (h : va_AO C s) : ∃ cA : ClassId, ArrOfT s cA (.object C) ∧ va_RA s cA (.object C) := by
  obtain ⟨comp, c, k, h1, h2, h3, h4, h5⟩ := Cond.arrayOver_spec h
  exact ⟨c, fun n z => ⟨fun k h => (by cases h), k, h3, comp, h4⟩, k, comp, h3, h4, h1, h5⟩
theorem bs_K {s : State} {b : Nat} (hts : ∀ w ∈ lw_tbl, w.before #[Value.ref b] s = true) : ∃ (dC : Nat → ClassId) (dI : Nat → Nat → Nat) (dA : Nat → ClassId), ∀ f : Nat → Nat, va_K (dC, dI) bw_cls (bw_ty (f, dC, dI, dA)) s := by
  have h0 : ∀ k : Nat, ∃ q : ClassId × (Nat → Nat), ∀ r, bw_cls[k]? = some r → u_Kn s r.1 r.2.1 r.2.2 q.1 q.2 := by
    intro k
    cases hq : bw_cls[k]? with
    | none => exact ⟨(0, fun _ => 0), fun r h => by cases h⟩
    | some r =>
      have hm := List.mem_of_getElem? hq
      obtain ⟨cC, iS, h⟩ := u_known (ws := bw_tbl) (fun w hw => hts w (List.mem_filter.mp hw).1) (bs_in r hm) (hts _ (bs_it (r.1, r.2.2) (List.mem_map.mpr ⟨r, hm, rfl⟩)))
      exact ⟨(cC, iS), fun r' h' => by cases h'; exact h⟩
  obtain ⟨dd, hd⟩ := Classical.axiomOfChoice h0
  obtain ⟨c0, h0⟩ := bs_a1 (hts _ bs_ac.1)
  obtain ⟨c1, h1⟩ := bs_a2 (hts _ bs_ac.2.1)
  obtain ⟨c2, h2⟩ := bs_a3 (hts _ bs_ac.2.2)
  obtain ⟨c3, h3⟩ := bs_a4 (va_AO.of (hts _ bs_16.1))
  obtain ⟨c4, h4⟩ := bs_a4 (va_AO.of (hts _ bs_16.2))
  refine ⟨fun k => (dd k).1, fun k => (dd k).2, fun k => if k = 0 then c0 else if k = 1 then c1 else if k = 2 then c2 else if k = 3 then c3 else c4, fun f => ⟨fun c q hq => hd c q hq, fun k q hq => ?_⟩⟩
  match k, hq with
  | 0, hq => cases hq; exact h0
  | 1, hq => cases hq; exact h1
  | 2, hq => cases hq; exact h2
  | 3, hq => cases hq; exact h3
  | 4, hq => cases hq; exact h4
  | k + 5, hq => cases hq
