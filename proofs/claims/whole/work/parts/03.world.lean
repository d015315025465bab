/-! THE PURE WORLD: the cells that the class and the reference use, by numbers: what they hold is two functions -/
abbrev bw_W : Type := (Nat → Nat → Int32) × (Nat → Nat → Int64)
def gw_i (w : bw_W) (c k : Nat) : Int32 := w.1 c k
def gw_l (w : bw_W) (c k : Nat) : Int64 := w.2 c k
def cw_i (w : bw_W) (c : Nat) (f : Nat → Int32) : bw_W := (fun c' => if c' = c then f else w.1 c', w.2)
def cw_l (w : bw_W) (c : Nat) (f : Nat → Int64) : bw_W := (w.1, fun c' => if c' = c then f else w.2 c')
def sw_i (w : bw_W) (c k : Nat) (v : Int32) : bw_W := cw_i w c (fun j => if j = k then v else w.1 c j)
def sw_l (w : bw_W) (c k : Nat) (v : Int64) : bw_W := cw_l w c (fun j => if j = k then v else w.2 c j)
/-- addresses of the cells, classes' numbers, slots of fields, classes' numbers of array sorts -/
abbrev bw_E : Type := (Nat → Nat) × (Nat → ClassId) × (Nat → Nat → Nat) × (Nat → ClassId)
abbrev bw_M : Type := MethodName × ByteArray × Nat × Option FieldType
abbrev bw_cls : List vw_C := [(RX0, TX0, 6), (RX1, TX1, 1), (RX2, TX2, 5), (RX3, TX3, 13), (RX4, TX4, 2), (RX5, TX5, 2), (RX6, TX6, 1), (RX7, TX7, 1), (RX8, TX8, 5), (RX9, TX9, 2), (RX10, TX10, 7), (RX11, TX11, 19), (RX12, TX12, 52)]
def bw_shL : List (Nat × Nat × Nat) := [(0, 11, 19), (0, 9, 2), (3, 480, 0), (0, 0, 6), (0, 4, 2), (0, 3, 13), (2, 6, 0), (1, 6, 0), (2, 48, 0), (2, 24, 0), (2, 24, 0), (2, 4, 0), (1, 4, 0), (3, 32, 0), (1, 32, 0), (1, 32, 0), (2, 32, 0), (0, 6, 1), (0, 3, 13), (2, 6, 0), (1, 6, 0), (2, 48, 0), (2, 24, 0), (2, 24, 0), (2, 4, 0), (1, 4, 0), (3, 32, 0), (1, 32, 0), (1, 32, 0), (2, 32, 0), (4, 5, 0), (0, 7, 1), (2, 52, 0), (0, 7, 1), (2, 52, 0), (0, 10, 7), (3, 144, 0), (0, 2, 5), (1, 100, 0), (1, 40, 0), (2, 40, 0), (0, 7, 1), (2, 52, 0), (0, 2, 5), (1, 100, 0), (1, 40, 0), (2, 40, 0), (1, 3, 0), (0, 1, 1), (0, 8, 5), (0, 12, 52), (1, 480, 0), (2, 6, 0), (1, 6, 0), (2, 48, 0), (2, 48, 0), (2, 4, 0), (1, 4, 0), (1, 96, 0), (2, 32, 0), (1, 240, 0), (2, 60, 0), (1, 5, 0), (2, 236, 0), (1, 3, 0), (2, 6, 0), (1, 6, 0), (2, 48, 0), (1, 4, 0), (1, 96, 0), (2, 32, 0), (1, 200, 0), (2, 9440, 0), (2, 55, 0), (1, 3, 0), (1, 3, 0), (2, 236, 0), (2, 1, 0), (0, 5, 2), (0, 5, 2), (0, 5, 2), (0, 5, 2), (0, 5, 2), (5, 12, 0), (5, 12, 0), (5, 12, 0), (5, 12, 0), (5, 12, 0), (0, 8, 5), (0, 8, 5), (0, 8, 5), (0, 8, 5), (0, 8, 5), (0, 8, 5), (0, 8, 5), (0, 8, 5), (0, 8, 5), (0, 8, 5), (0, 8, 5), (0, 8, 5), (0, 8, 5), (0, 8, 5), (0, 8, 5), (0, 8, 5), (0, 8, 5), (0, 8, 5), (0, 8, 5), (0, 8, 5), (0, 8, 5), (0, 8, 5), (0, 8, 5), (0, 8, 5), (0, 8, 5), (0, 8, 5), (0, 8, 5), (0, 8, 5), (0, 8, 5), (0, 8, 5), (0, 8, 5), (0, 8, 5), (0, 8, 5), (0, 8, 5), (0, 8, 5), (0, 8, 5), (0, 8, 5), (0, 8, 5), (0, 8, 5), (0, 8, 5), (0, 8, 5), (0, 8, 5), (0, 8, 5), (0, 8, 5), (0, 8, 5), (0, 8, 5), (0, 8, 5), (0, 8, 5), (0, 8, 5), (0, 8, 5), (0, 8, 5), (0, 8, 5), (0, 8, 5), (0, 8, 5), (0, 8, 5), (0, 8, 5), (0, 8, 5), (0, 8, 5), (0, 8, 5), (0, 8, 5)]
def bw_sh (c : Nat) : Nat × Nat × Nat := bw_shL.getD c (9, 0, 0)
def bw_rfL : List (List Nat) := [[1, 3, 4, 17, 18, 0, 30, 0, 31, 33, 35, 37, 41, 43, 0, 47, 48, 49, 0], [2, 0], [], [1, 0, 0, 0, 0, 0], [3, 5], [0, 6, 7, 8, 9, 10, 0, 11, 12, 13, 14, 15, 16], [], [], [], [], [], [], [], [], [], [], [], [3], [0, 19, 20, 21, 22, 23, 0, 24, 25, 26, 27, 28, 29], [], [], [], [], [], [], [], [], [], [], [], [78, 79, 80, 81, 82], [32], [], [34], [], [18, 31, 36, 0, 0, 0, 0], [], [38, 0, 39, 40, 0], [], [], [], [42], [], [44, 0, 45, 46, 0], [], [], [], [], [], [], [0, 51, 0, 0, 0, 0, 0, 0, 0, 0, 0, 0, 52, 53, 54, 55, 56, 57, 58, 59, 0, 0, 60, 61, 62, 0, 63, 64, 65, 66, 67, 68, 69, 70, 0, 0, 71, 0, 0, 0, 0, 72, 0, 0, 73, 74, 75, 0, 0, 0, 76, 0], [], [], [], [], [], [], [], [], [], [], [], [], [], [], [], [], [], [], [], [], [], [], [], [], [], [], [], [0, 83], [0, 84], [0, 85], [0, 86], [0, 87], [88, 89, 90, 91, 92, 93, 94, 95, 96, 97, 98, 99], [100, 101, 102, 103, 104, 105, 106, 107, 108, 109, 110, 111], [112, 113, 114, 115, 116, 117, 118, 119, 120, 121, 122, 123], [124, 125, 126, 127, 128, 129, 130, 131, 132, 133, 134, 135], [136, 137, 138, 139, 140, 141, 142, 143, 144, 145, 146, 147], [], [], [], [], [], [], [], [], [], [], [], [], [], [], [], [], [], [], [], [], [], [], [], [], [], [], [], [], [], [], [], [], [], [], [], [], [], [], [], [], [], [], [], [], [], [], [], [], [], [], [], [], [], [], [], [], [], [], [], []]
def bw_rf (c k : Nat) : Nat := (bw_rfL.getD c []).getD k 0
def bw_ft : List (List Nat) := [[2, 0, 0, 0, 0, 1], [1], [2, 0, 2, 2, 0], [0, 2, 2, 2, 2, 2, 0, 2, 2, 2, 2, 2, 2], [2, 2], [0, 2], [2], [2], [0, 0, 0, 0, 1], [2, 0], [2, 2, 2, 0, 0, 0, 0], [2, 2, 2, 2, 2, 0, 2, 0, 2, 2, 2, 2, 2, 2, 0, 2, 2, 2, 0], [0, 2, 0, 0, 0, 0, 0, 0, 0, 0, 0, 1, 2, 2, 2, 2, 2, 2, 2, 2, 0, 0, 2, 2, 2, 0, 2, 2, 2, 2, 2, 2, 2, 2, 0, 0, 2, 0, 0, 0, 0, 2, 0, 1, 2, 2, 2, 0, 0, 0, 2, 0]]
abbrev bw_N : Nat := 148
def bw_v (E : bw_E) : Value → Value
  | .ref i => .ref (E.1 i)
  | v => v
def bw_fv (E : bw_E) (w : bw_W) (c ci k : Nat) : Value := match (bw_ft.getD ci []).getD k 0 with
  | 0 => .int (w.1 c k)
  | 1 => .long (w.2 c k)
  | _ => .ref (E.1 (bw_rf c k))
def bw_ce (E : bw_E) (w : bw_W) (c : Nat) : (Nat × Nat × Nat) → va_E
  | (0, ci, n) => .inr (ci, (List.range n).map (fun k => bw_fv E w c ci k))
  | (1, n, _) => .inl (E.2.2.2 0, n, .inl (w.1 c))
  | (2, n, _) => .inl (E.2.2.2 1, n, .inr (.inl (w.2 c)))
  | (3, n, _) => .inl (E.2.2.2 2, n, .inl (w.1 c))
  | (t, n, _) => .inl (E.2.2.2 (t - 1), n, .inr (.inr (.inr (.inr (fun j => some (E.1 (bw_rf c j)))))))
def bw_cell (E : bw_E) (w : bw_W) (c : Nat) : Nat × va_E := (E.1 c, bw_ce E w c (bw_sh c))
def bw_ws (E : bw_E) (w : bw_W) : va_W := (List.range bw_N).map (bw_cell E w)
def bw_ty (E : bw_E) : List (ClassId × FieldType) := [(E.2.2.2 0, .int), (E.2.2.2 1, .long), (E.2.2.2 2, .char), (E.2.2.2 3, .object "BentWords$Script"), (E.2.2.2 4, .object "BentWords$Step")]
def bw_A (E : bw_E) : Nat → Prop := fun q => ∃ i, i < bw_N ∧ E.1 i = q
def bw_inj (E : bw_E) : Prop := ∀ i j, i < bw_N → j < bw_N → E.1 i = E.1 j → i = j
theorem bw_ws_at {E : bw_E} {w : bw_W} {c : Nat} (h : c < bw_N) : (bw_ws E w)[c]? = some (bw_cell E w c) := by
  simp only [bw_ws, List.getElem?_map, List.getElem?_range h, Option.map_some]
theorem bw_lt {c t a b : Nat} (h : bw_sh c = (t, a, b)) (ht : t ≠ 9) : c < bw_N := by
  rcases Nat.lt_or_ge c bw_N with q | q
  · exact q
  · have hl : bw_shL.length = bw_N := by decide +kernel
    have h2 : bw_sh c = (9, 0, 0) := by
      unfold bw_sh
      rw [List.getD_eq_getElem?_getD, List.getElem?_eq_none (by rw [hl]; exact q)]
      rfl
    rw [h2] at h
    cases h
    exact absurd rfl ht
theorem bw_ws_len (E : bw_E) (w : bw_W) : (bw_ws E w).length = bw_N := by simp [bw_ws]
/-- one cell changes -/
theorem bw_ws_set {E : bw_E} {w w' : bw_W} {c : Nat} {e : va_E} (hc : c < bw_N) (h1 : bw_ce E w' c (bw_sh c) = e) (h2 : ∀ i, i ≠ c → w'.1 i = w.1 i ∧ w'.2 i = w.2 i) : (bw_ws E w).set c (E.1 c, e) = bw_ws E w' := by
  apply List.ext_getElem?
  intro i
  rw [List.getElem?_set, bw_ws_len]
  by_cases hi : c = i
  · subst hi
    rw [if_pos rfl, if_pos hc, bw_ws_at hc]
    rw [← h1]
    rfl
  · rw [if_neg hi]
    by_cases hn : i < bw_N
    · rw [bw_ws_at hn, bw_ws_at hn]
      have e1 := (h2 i (fun q => hi q.symm)).1
      have e2 := (h2 i (fun q => hi q.symm)).2
      have : bw_cell E w i = bw_cell E w' i := by
        unfold bw_cell bw_ce
        have hf : ∀ ci k, bw_fv E w i ci k = bw_fv E w' i ci k := by
          intro ci k
          unfold bw_fv
          rw [e1, e2]
        simp only [hf, e1, e2]
      rw [this]
    · rw [List.getElem?_eq_none (by rw [bw_ws_len]; omega), List.getElem?_eq_none (by rw [bw_ws_len]; omega)]
theorem bw_D {E : bw_E} (hI : bw_inj E) (w : bw_W) : va_D (bw_A E) (bw_ws E w) := by
  have hlt : ∀ {i : Nat} {q : Nat × va_E}, (bw_ws E w)[i]? = some q → i < bw_N ∧ q = bw_cell E w i := by
    intro i q h
    have hi : i < bw_N := by
      have := (List.getElem?_eq_some_iff.mp h).1
      rw [bw_ws_len] at this
      exact this
    rw [bw_ws_at hi] at h
    exact ⟨hi, (Option.some.inj h).symm⟩
  refine ⟨fun i j a b hi hj hab => ?_, fun k q hk => ?_⟩
  · obtain ⟨h1, rfl⟩ := hlt hi
    obtain ⟨h2, rfl⟩ := hlt hj
    exact hI i j h1 h2 hab
  · obtain ⟨h1, rfl⟩ := hlt hk
    exact ⟨k, h1, rfl⟩
/-- old cells: statics, String constants -/
def bw_stat : List (String × String × Int64) := [("BentWordsModel", "W_NOUN", 287078), ("BentWordsModel", "W_FORM", 129532), ("BentWordsModel", "W_ARTICLE", 656509298), ("BentWordsModel", "W_PRONOUN", 6465266843), ("BentWordsModel", "W_MESSAGE", 5118683171), ("BentWordsModel", "W_FILL", 124995), ("BentWordsModel", "W_EMPTY", 2925313), ("BentWordsModel", "W_STRICT", 283619009), ("BentWordsModel", "W_DROP", 92275)]
def bw_strs : List (String × Nat × String × Nat) := [("BentWords$LexiconReader", 57, "noun", 0), ("BentWords$LexiconReader", 67, "form", 1), ("BentWords$LexiconReader", 72, "article", 2), ("BentWords$LexiconReader", 82, "pronoun", 3), ("BentWords$LexiconReader", 87, "message", 4), ("BentWords$ScriptReader", 57, "fill", 5), ("BentWords$ScriptReader", 76, "empty", 6), ("BentWords$ScriptReader", 78, "strict", 7), ("BentWords$ScriptReader", 80, "form", 1), ("BentWords$ScriptReader", 88, "drop", 8)]
def bw_nest : List (String × Nat × MethodName × String) := [("BentWords$Teller", 163, ⟨"BentWords", "lettersOf", "(J)I"⟩, "BentWords"), ("BentWords$Teller", 167, ⟨"BentWords", "letterOf", "(JI)I"⟩, "BentWords")]
def bw_O (E : bw_E) (U : State) : Prop := (∀ z ∈ bw_stat, va_Z z.1 z.2.1 "J" (.long z.2.2) (bw_A E) U U.heap) ∧ va_Z "java/lang/String" "COMPACT_STRINGS" "Z" (.int 1) (bw_A E) U U.heap ∧
  vk_S 9 [4, 4, 7, 7, 7, 4, 5, 6, 4] [[110, 111, 117, 110], [102, 111, 114, 109], [97, 114, 116, 105, 99, 108, 101], [112, 114, 111, 110, 111, 117, 110], [109, 101, 115, 115, 97, 103, 101], [102, 105, 108, 108], [101, 109, 112, 116, 121], [115, 116, 114, 105, 99, 116], [100, 114, 111, 112]] (fun i => E.1 (1000 + i)) (fun i => E.1 (2000 + i)) (bw_A E) U U.heap ∧ (∀ z ∈ bw_strs, vk_R z.1 z.2.1 z.2.2.1 (E.1 (1000 + z.2.2.2)) U) ∧ (∀ z ∈ bw_nest, va_Nw (.methodLinkNest z.1 z.2.1 z.2.2.1 z.2.2.2) U) ∧ (va_Z "jdk/internal/util/Preconditions" "SIOOBE_FORMATTER" "Ljava/util/function/BiFunction;" .null (bw_A E) U U.heap ∨ va_Z "jdk/internal/util/Preconditions" "SIOOBE_FORMATTER" "Ljava/util/function/BiFunction;" (.ref (E.1 3000)) (bw_A E) U U.heap)
theorem bw_O.go {E : bw_E} {s U : State} {H : Heap} {locs : List Loc} (h : bw_O E s) (hS : va_S (bw_A E) s.heap H locs) (hU : U.heap = H) (hW : s.WarmedH U.vm) : bw_O E U := by
  obtain ⟨h1, h2, h3, h4, h5, h6⟩ := h
  have hq : ∀ a : Nat, a < s.heap.size → ¬ bw_A E a → U.heap[a]? = s.heap[a]? := fun a x y => by rw [hU]; exact hS.2.1 a x y
  exact ⟨fun z hz => ((h1 z hz).moved hW.alike).kept hq, (h2.moved hW.alike).kept hq, (h3.moved hW.alike).kept hq, fun z hz => vk_R.warm hW (h4 z hz), fun z hz => va_Nw.warmM hW (h5 z hz), h6.imp (fun h6 => (h6.moved hW.alike).kept hq) (fun h6 => (h6.moved hW.alike).kept hq)⟩
theorem bw_O.calling {E : bw_E} {U : State} (h : bw_O E U) (g : JFrame) (mk : MethodId) (a : Array Value) : bw_O E (U.calling g mk a) := by
  obtain ⟨h1, h2, h3, h4, h5, h6⟩ := h
  exact ⟨fun z hz => va_Z.moved (u := U) (U := U.calling g mk a) (Vm.Alike.refl U.vm) (h1 z hz), va_Z.moved (u := U) (U := U.calling g mk a) (Vm.Alike.refl U.vm) h2, vk_S.moved (u := U) (U := U.calling g mk a) (Vm.Alike.refl U.vm) h3, fun z hz => vk_R.same (u := U) (U := U.calling g mk a) rfl (h4 z hz), fun z hz => va_Nw.same rfl rfl (h5 z hz), h6.imp (va_Z.moved (u := U) (U := U.calling g mk a) (Vm.Alike.refl U.vm)) (va_Z.moved (u := U) (U := U.calling g mk a) (Vm.Alike.refl U.vm))⟩
/-! locals -/
def bw_lr (E : bw_E) (L : List (Option Value)) (ls : Array Slot) (n : Nat) : Prop := ls.size = n ∧ lv_wf ls ∧ ∀ (i : Nat) (v : Value), L[i]? = some (some v) → ls[i]? = some (.val (bw_v E v))
theorem bw_v_cat (E : bw_E) (v : Value) : (bw_v E v).category = v.category := by cases v <;> rfl
def bw_kill (L : List (Option Value)) : Nat → List (Option Value)
  | 0 => L
  | j + 1 => match L[j]? with
    | some (some v) => if v.category = 2 then L.set j none else L
    | _ => L
def bw_s1 (L : List (Option Value)) (i : Nat) (v : Value) : List (Option Value) := (bw_kill L i).set i (some v)
def bw_s2 (L : List (Option Value)) (i : Nat) (v : Value) : List (Option Value) := ((bw_kill L i).set i (some v)).set (i + 1) none
def bw_as (E : bw_E) (L : List (Option Value)) : List (Nat × Value) := (List.range L.length).filterMap (fun i => match L[i]? with
  | some (some v) => some (i, bw_v E v)
  | _ => none)
theorem bw_as_mem {E : bw_E} {L : List (Option Value)} {i : Nat} {v : Value} (h : L[i]? = some (some v)) : (i, bw_v E v) ∈ bw_as E L := by
  refine List.mem_filterMap.mpr ⟨i, List.mem_range.mpr (List.getElem?_eq_some_iff.mp h).1, ?_⟩
  rw [h]
theorem bw_as_of {E : bw_E} {L : List (Option Value)} {q : Nat × Value} (h : q ∈ bw_as E L) : ∃ v, L[q.1]? = some (some v) ∧ q.2 = bw_v E v := by
  obtain ⟨i, -, h2⟩ := List.mem_filterMap.mp h
  cases hx : L[i]? with
  | none => rw [hx] at h2; cases h2
  | some o =>
    cases o with
    | none => rw [hx] at h2; cases h2
    | some v =>
      rw [hx] at h2
      cases h2
      exact ⟨v, hx, rfl⟩
theorem bw_lr.has {E : bw_E} {L : List (Option Value)} {ls : Array Slot} {n : Nat} (h : bw_lr E L ls n) : lv_has ls n (bw_as E L) := by
  refine ⟨h.1, h.2.1, fun q hq => ?_⟩
  obtain ⟨v, h1, h2⟩ := bw_as_of hq
  rw [h2]
  exact h.2.2 _ _ h1
theorem bw_kill_at {L : List (Option Value)} {i j : Nat} {u : Value} (h : (bw_kill L i)[j]? = some (some u)) : L[j]? = some (some u) ∧ (j + 1 = i → u.category ≠ 2) := by
  cases i with
  | zero => exact ⟨h, fun q => by omega⟩
  | succ k =>
    replace h : (match L[k]? with
      | some (some v) => if v.category = 2 then L.set k none else L
      | _ => L)[j]? = some (some u) := h
    cases hx : L[k]? with
    | none =>
      rw [hx] at h
      refine ⟨h, fun q => ?_⟩
      have : j = k := by omega
      subst this
      have h' : L[j]? = some (some u) := h
      rw [hx] at h'
      cases h'
    | some o =>
      cases o with
      | none =>
        rw [hx] at h
        refine ⟨h, fun q => ?_⟩
        have : j = k := by omega
        subst this
        have h' : L[j]? = some (some u) := h
        rw [hx] at h'
        cases h'
      | some v =>
        rw [hx] at h
        dsimp only at h
        by_cases hc : v.category = 2
        · rw [if_pos hc, List.getElem?_set] at h
          by_cases hkj : k = j
          · rw [if_pos hkj] at h
            split at h <;> cases h
          · rw [if_neg hkj] at h
            exact ⟨h, fun q => absurd (by omega) hkj⟩
        · rw [if_neg hc] at h
          refine ⟨h, fun q => ?_⟩
          have : j = k := by omega
          subst this
          rw [hx] at h
          cases h
          exact hc
theorem bw_lr_s1 {E : bw_E} {L : List (Option Value)} {ls' : Array Slot} {n i : Nat} {v : Value} (h : lv_has ls' n ((i, bw_v E v) :: (bw_as E L).filter (fun q => !(q.1 == i) && !(q.1 + 1 == i && q.2.category == 2)))) : bw_lr E (bw_s1 L i v) ls' n := by
  refine ⟨h.1, h.2.1, fun j u hj => ?_⟩
  unfold bw_s1 at hj
  rw [List.getElem?_set] at hj
  by_cases hij : i = j
  · subst hij
    rw [if_pos rfl] at hj
    split at hj
    · cases hj
      exact h.2.2 _ List.mem_cons_self
    · cases hj
  · rw [if_neg hij] at hj
    obtain ⟨h1, h2⟩ := bw_kill_at hj
    refine h.2.2 (j, bw_v E u) (List.mem_cons_of_mem _ (List.mem_filter.mpr ⟨bw_as_mem h1, ?_⟩))
    have h3 : ¬ j = i := fun q => hij q.symm
    simp only [bw_v_cat]
    by_cases h4 : j + 1 = i
    · have := h2 h4
      simp [h3, this]
    · simp [h3, h4]
theorem bw_lr_s2 {E : bw_E} {L : List (Option Value)} {ls' : Array Slot} {n i : Nat} {v : Value} (h : lv_has ls' n ((i, bw_v E v) :: (bw_as E L).filter (fun q => !(q.1 == i) && (!(q.1 == i + 1) && !(q.1 + 1 == i && q.2.category == 2))))) : bw_lr E (bw_s2 L i v) ls' n := by
  refine ⟨h.1, h.2.1, fun j u hj => ?_⟩
  unfold bw_s2 at hj
  rw [List.getElem?_set] at hj
  by_cases hij2 : i + 1 = j
  · rw [if_pos hij2] at hj
    split at hj <;> cases hj
  · rw [if_neg hij2, List.getElem?_set] at hj
    by_cases hij : i = j
    · subst hij
      rw [if_pos rfl] at hj
      split at hj
      · cases hj
        exact h.2.2 _ List.mem_cons_self
      · cases hj
    · rw [if_neg hij] at hj
      obtain ⟨h1, h2⟩ := bw_kill_at hj
      refine h.2.2 (j, bw_v E u) (List.mem_cons_of_mem _ (List.mem_filter.mpr ⟨bw_as_mem h1, ?_⟩))
      have h3 : ¬ j = i := fun q => hij q.symm
      have h5 : ¬ j = i + 1 := fun q => hij2 q.symm
      simp only [bw_v_cat]
      by_cases h4 : j + 1 = i
      · have := h2 h4
        simp [h3, h5, this]
      · simp [h3, h5, h4]
def bw_en (A : List Value) (n : Nat) : List (Option Value) := (A.flatMap fun v => if v.category = 2 then [some v, none] else [some v]) ++ List.replicate (n - (A.flatMap fun v => if v.category = 2 then [some v, none] else [some v]).length) none
theorem bw_en_sl (E : bw_E) (A : List Value) : lg_sl (A.map (bw_v E)) = (A.flatMap fun v => if v.category = 2 then [some v, none] else [some v]).map (fun o => match o with
  | some v => Slot.val (bw_v E v)
  | none => Slot.second) := by
  induction A with
  | nil => rfl
  | cons v A ih =>
    unfold lg_sl at ih ⊢
    simp only [List.map_cons, List.flatMap_cons, List.map_append, ih, bw_v_cat]
    by_cases hc : v.category = 2
    · simp [hc]
    · simp [hc]
theorem bw_lr_en (E : bw_E) (A : List Value) {n : Nat} (h : (lg_sl (A.map (bw_v E))).length ≤ n) : bw_lr E (bw_en A n) ((lg_sl (A.map (bw_v E)) ++ List.replicate (n - (lg_sl (A.map (bw_v E))).length) Slot.unset).toArray) n := by
  have h0 := lv_entry (A.map (bw_v E)) h
  refine ⟨h0.1, h0.2.1, fun i v hv => ?_⟩
  unfold bw_en at hv
  rw [bw_en_sl] at h ⊢
  rw [List.length_map] at h ⊢
  simp only [List.getElem?_toArray]
  rw [List.getElem?_append] at hv ⊢
  rw [List.length_map]
  split
  · rename_i hlt
    rw [if_pos hlt] at hv
    rw [List.getElem?_map, hv]
    rfl
  · rename_i hlt
    rw [if_neg hlt, List.getElem?_replicate] at hv
    split at hv <;> cases hv
/-! the judgement: from here the method returns, with Q of its answer and of the world -/
def bw_C (E : bw_E) (M : bw_M) (p : Program) (s : State) (m : MethodId) (args : Array Value) (meth : Method) (c : Code) : Prop :=
  p.tables.exec = Jvm.exec ∧ c.code = M.2.1 ∧ c.maxLocals = M.2.2.1 ∧ meth.sig.returnType = M.2.2.2 ∧ s.vm.findClass M.1.cls = some m.cls ∧ (∀ w ∈ bw_tbl, w.before args s = true) ∧ meth.locks = false ∧ va_K (E.2.1, E.2.2.1) bw_cls (bw_ty E) s ∧ bw_inj E ∧ bw_O E s
def bw_Q (E : bw_E) (Q : Option Value → bw_W → Prop) : Array Value → State → Outcome → State → Prop := fun _ st o t => (∃ (r : Option Value) (w' : bw_W), o = .returned (r.map (bw_v E)) ∧ Q r w' ∧ va_P (E.2.1, E.2.2.1) bw_cls (bw_ws E w') t.heap) ∧ va_F (bw_A E) st t
def bw_R (d : Nat) : Room := { frames := d, cells := 0, slots := 0, locals := 40 * d }
def bw_G (E : bw_E) (d : Nat) (M : bw_M) (pc : Nat) (L : List (Option Value)) (st : List Value) (w : bw_W) (Q : Option Value → bw_W → Prop) : Prop :=
  ∀ (p : Program) (l : Launch) (e : Env) (s : State) (m : MethodId) (args : Array Value) (below : List Frame) (meth : Method) (c : Code) (H : Heap) (locs : List Loc) (ls : Array Slot),
    bw_C E M p s m args meth c → va_P (E.2.1, E.2.2.1) bw_cls (bw_ws E w) H → va_S (bw_A E) s.heap H locs → bw_lr E L ls M.2.2.1 →
    W p l e (bw_R d) s m args below meth c H locs 0 0 (MQ below (bw_Q E Q) args s 0 0 (bw_A E)) (F0 m pc ls (st.map (bw_v E)))
def bw_P (E : bw_E) (A : List Value) (w : bw_W) : Array Value → State → Prop := fun a U => a = (A.map (bw_v E)).toArray ∧ va_P (E.2.1, E.2.2.1) bw_cls (bw_ws E w) U.heap ∧ va_K (E.2.1, E.2.2.1) bw_cls (bw_ty E) U ∧ bw_inj E ∧ bw_O E U
def bw_wd (M : bw_M) : List Cond := .code M.1 M.2.1 M.2.2.1 M.2.2.2 :: bw_tbl
/-- a method's contract -/
def bw_run (E : bw_E) (d : Nat) (M : bw_M) (A : List Value) (w : bw_W) (Q : Option Value → bw_W → Prop) : Prop := ∀ l : Launch, Met l M.1 (bw_wd M) (bw_R d) (bw_P E A w) (bw_Q E Q) 0 0 (bw_A E)
theorem bw_blind (E : bw_E) (A : List Value) (w : bw_W) : FrameBlind (bw_P E A w) := by
  intro a U g mk ⟨h1, h2, h3, h4, h5⟩
  exact ⟨h1, h2, va_K.moved (u := U) (U := U.calling g mk a) (Vm.Alike.refl U.vm) h3, h4, h5.calling g mk a⟩
theorem bw_enter {E : bw_E} {d : Nat} {M : bw_M} {A : List Value} {w : bw_W} {Q : Option Value → bw_W → Prop} (hp : plainName M.1.cls = true) (hn : (lg_sl (A.map (bw_v E))).length ≤ M.2.2.1) (h : bw_G E d M 0 (bw_en A M.2.2.1) [] w Q) : bw_run E d M A w Q := by
  intro l
  refine Met.ofW (cc := M.2.1) (maxL := M.2.2.1) (ret := M.2.2.2) hp rfl ?_
  intro p e s m args below meth c s₁ B hml hv
  obtain ⟨rfl, hP, hK, hI, hO⟩ := hv
  have hts := atoms_spec (ws := bw_wd M) B.pre
  rw [lg_entry_eq]
  exact h p l e s m _ below meth c s.heap [] _ ⟨B.exec, B.bytes, hml, B.returns, findClass_of_methodNamed B.named, fun w hw => hts w (List.mem_cons_of_mem _ hw), B.notSynchronized, hK, hI, hO⟩ hP va_S.rf (bw_lr_en E A hn)
theorem bw_weak {E : bw_E} {d : Nat} {M : bw_M} {pc : Nat} {L : List (Option Value)} {st : List Value} {w : bw_W} {Q : Option Value → bw_W → Prop} {L' : List (Option Value)} (hl : ∀ (i : Nat) (v : Value), L'[i]? = some (some v) → L[i]? = some (some v)) (h : bw_G E d M pc L' st w Q) : bw_G E d M pc L st w Q :=
  fun p l e s m args below meth c H locs ls hC hP hS hL => h p l e s m args below meth c H locs ls hC hP hS ⟨hL.1, hL.2.1, fun i v hv => hL.2.2 i v (hl i v hv)⟩
