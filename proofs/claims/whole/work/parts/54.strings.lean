/-! String literals: length, charAt; wordIs -/
def RJ0 : String := "java/lang/String"
def RJ1 : String := "java/lang/StringLatin1"
def RJ3 : String := "jdk/internal/util/Preconditions"
abbrev cJ0_length_8abf5 : ByteArray := prog_22_method_54_code
def yJ0_length_8abf5 : MethodName := ⟨RJ0, "length", "()I"⟩
abbrev cJ0_charAt_5068e : ByteArray := prog_22_method_56_code
def yJ0_charAt_5068e : MethodName := ⟨RJ0, "charAt", "(I)C"⟩
abbrev cJ0_coder_7d493 : ByteArray := prog_22_method_152_code
def yJ0_coder_7d493 : MethodName := ⟨RJ0, "coder", "()B"⟩
abbrev cJ0_isLatin1_aae02 : ByteArray := prog_22_method_154_code
def yJ0_isLatin1_aae02 : MethodName := ⟨RJ0, "isLatin1", "()Z"⟩
abbrev cJ0_checkIndex_df160 : ByteArray := prog_22_method_155_code
def yJ0_checkIndex_df160 : MethodName := ⟨RJ0, "checkIndex", "(II)V"⟩
abbrev cJ1_charAt_3b067 : ByteArray := prog_23_method_2_code
def yJ1_charAt_3b067 : MethodName := ⟨RJ1, "charAt", "([BI)C"⟩
abbrev cJ3_checkIndex_8e157 : ByteArray := prog_30_method_11_code
def yJ3_checkIndex_8e157 : MethodName := ⟨RJ3, "checkIndex", "(IILjava/util/function/BiFunction;)I"⟩
theorem dJ0_length_8abf5_0 : decode cJ0_length_8abf5 0 = .ok (.aload_n 0, 1) := by decide +kernel
theorem dJ0_length_8abf5_1 : decode cJ0_length_8abf5 1 = .ok (.getfield 9, 3) := by decide +kernel
theorem dJ0_length_8abf5_4 : decode cJ0_length_8abf5 4 = .ok (.arraylength, 1) := by decide +kernel
theorem dJ0_length_8abf5_5 : decode cJ0_length_8abf5 5 = .ok (.aload_n 0, 1) := by decide +kernel
theorem dJ0_length_8abf5_6 : decode cJ0_length_8abf5 6 = .ok (.invokevirtual 335, 3) := by decide +kernel
theorem dJ0_length_8abf5_9 : decode cJ0_length_8abf5 9 = .ok (.ishr, 1) := by decide +kernel
theorem dJ0_length_8abf5_10 : decode cJ0_length_8abf5 10 = .ok (.ireturn, 1) := by decide +kernel
theorem dJ0_charAt_5068e_0 : decode cJ0_charAt_5068e 0 = .ok (.aload_n 0, 1) := by decide +kernel
theorem dJ0_charAt_5068e_1 : decode cJ0_charAt_5068e 1 = .ok (.invokevirtual 492, 3) := by decide +kernel
theorem dJ0_charAt_5068e_4 : decode cJ0_charAt_5068e 4 = .ok (.ifCond .eq 12, 3) := by decide +kernel
theorem dJ0_charAt_5068e_7 : decode cJ0_charAt_5068e 7 = .ok (.aload_n 0, 1) := by decide +kernel
theorem dJ0_charAt_5068e_8 : decode cJ0_charAt_5068e 8 = .ok (.getfield 9, 3) := by decide +kernel
theorem dJ0_charAt_5068e_11 : decode cJ0_charAt_5068e 11 = .ok (.iload_n 1, 1) := by decide +kernel
theorem dJ0_charAt_5068e_12 : decode cJ0_charAt_5068e 12 = .ok (.invokestatic 495, 3) := by decide +kernel
theorem dJ0_charAt_5068e_15 : decode cJ0_charAt_5068e 15 = .ok (.ireturn, 1) := by decide +kernel
theorem dJ0_charAt_5068e_16 : decode cJ0_charAt_5068e 16 = .ok (.aload_n 0, 1) := by decide +kernel
theorem dJ0_charAt_5068e_17 : decode cJ0_charAt_5068e 17 = .ok (.getfield 9, 3) := by decide +kernel
theorem dJ0_charAt_5068e_20 : decode cJ0_charAt_5068e 20 = .ok (.iload_n 1, 1) := by decide +kernel
theorem dJ0_charAt_5068e_21 : decode cJ0_charAt_5068e 21 = .ok (.invokestatic 498, 3) := by decide +kernel
theorem dJ0_charAt_5068e_24 : decode cJ0_charAt_5068e 24 = .ok (.ireturn, 1) := by decide +kernel
theorem dJ0_coder_7d493_0 : decode cJ0_coder_7d493 0 = .ok (.getstatic 38, 3) := by decide +kernel
theorem dJ0_coder_7d493_3 : decode cJ0_coder_7d493 3 = .ok (.ifCond .eq 10, 3) := by decide +kernel
theorem dJ0_coder_7d493_6 : decode cJ0_coder_7d493 6 = .ok (.aload_n 0, 1) := by decide +kernel
theorem dJ0_coder_7d493_7 : decode cJ0_coder_7d493 7 = .ok (.getfield 15, 3) := by decide +kernel
theorem dJ0_coder_7d493_10 : decode cJ0_coder_7d493 10 = .ok (.goto 4, 3) := by decide +kernel
theorem dJ0_coder_7d493_13 : decode cJ0_coder_7d493 13 = .ok (.iconst 1, 1) := by decide +kernel
theorem dJ0_coder_7d493_14 : decode cJ0_coder_7d493 14 = .ok (.ireturn, 1) := by decide +kernel
theorem dJ0_isLatin1_aae02_0 : decode cJ0_isLatin1_aae02 0 = .ok (.getstatic 38, 3) := by decide +kernel
theorem dJ0_isLatin1_aae02_3 : decode cJ0_isLatin1_aae02 3 = .ok (.ifCond .eq 14, 3) := by decide +kernel
theorem dJ0_isLatin1_aae02_6 : decode cJ0_isLatin1_aae02 6 = .ok (.aload_n 0, 1) := by decide +kernel
theorem dJ0_isLatin1_aae02_7 : decode cJ0_isLatin1_aae02 7 = .ok (.getfield 15, 3) := by decide +kernel
theorem dJ0_isLatin1_aae02_10 : decode cJ0_isLatin1_aae02 10 = .ok (.ifCond .ne 7, 3) := by decide +kernel
theorem dJ0_isLatin1_aae02_13 : decode cJ0_isLatin1_aae02 13 = .ok (.iconst 1, 1) := by decide +kernel
theorem dJ0_isLatin1_aae02_14 : decode cJ0_isLatin1_aae02 14 = .ok (.goto 4, 3) := by decide +kernel
theorem dJ0_isLatin1_aae02_17 : decode cJ0_isLatin1_aae02 17 = .ok (.iconst 0, 1) := by decide +kernel
theorem dJ0_isLatin1_aae02_18 : decode cJ0_isLatin1_aae02 18 = .ok (.ireturn, 1) := by decide +kernel
theorem dJ0_checkIndex_df160_0 : decode cJ0_checkIndex_df160 0 = .ok (.iload_n 0, 1) := by decide +kernel
theorem dJ0_checkIndex_df160_1 : decode cJ0_checkIndex_df160 1 = .ok (.iload_n 1, 1) := by decide +kernel
theorem dJ0_checkIndex_df160_2 : decode cJ0_checkIndex_df160 2 = .ok (.getstatic 1053, 3) := by decide +kernel
theorem dJ0_checkIndex_df160_5 : decode cJ0_checkIndex_df160 5 = .ok (.invokestatic 1059, 3) := by decide +kernel
theorem dJ0_checkIndex_df160_8 : decode cJ0_checkIndex_df160 8 = .ok (.pop, 1) := by decide +kernel
theorem dJ0_checkIndex_df160_9 : decode cJ0_checkIndex_df160 9 = .ok (.return_, 1) := by decide +kernel
theorem dJ1_charAt_3b067_0 : decode cJ1_charAt_3b067 0 = .ok (.iload_n 1, 1) := by decide +kernel
theorem dJ1_charAt_3b067_1 : decode cJ1_charAt_3b067 1 = .ok (.aload_n 0, 1) := by decide +kernel
theorem dJ1_charAt_3b067_2 : decode cJ1_charAt_3b067 2 = .ok (.arraylength, 1) := by decide +kernel
theorem dJ1_charAt_3b067_3 : decode cJ1_charAt_3b067 3 = .ok (.invokestatic 9, 3) := by decide +kernel
theorem dJ1_charAt_3b067_6 : decode cJ1_charAt_3b067 6 = .ok (.aload_n 0, 1) := by decide +kernel
theorem dJ1_charAt_3b067_7 : decode cJ1_charAt_3b067 7 = .ok (.iload_n 1, 1) := by decide +kernel
theorem dJ1_charAt_3b067_8 : decode cJ1_charAt_3b067 8 = .ok (.baload, 1) := by decide +kernel
theorem dJ1_charAt_3b067_9 : decode cJ1_charAt_3b067 9 = .ok (.sipush 255, 3) := by decide +kernel
theorem dJ1_charAt_3b067_12 : decode cJ1_charAt_3b067 12 = .ok (.iand, 1) := by decide +kernel
theorem dJ1_charAt_3b067_13 : decode cJ1_charAt_3b067 13 = .ok (.i2c, 1) := by decide +kernel
theorem dJ1_charAt_3b067_14 : decode cJ1_charAt_3b067 14 = .ok (.ireturn, 1) := by decide +kernel
theorem dJ3_checkIndex_8e157_0 : decode cJ3_checkIndex_8e157 0 = .ok (.iload_n 0, 1) := by decide +kernel
theorem dJ3_checkIndex_8e157_1 : decode cJ3_checkIndex_8e157 1 = .ok (.ifCond .lt 8, 3) := by decide +kernel
theorem dJ3_checkIndex_8e157_4 : decode cJ3_checkIndex_8e157 4 = .ok (.iload_n 0, 1) := by decide +kernel
theorem dJ3_checkIndex_8e157_5 : decode cJ3_checkIndex_8e157 5 = .ok (.iload_n 1, 1) := by decide +kernel
theorem dJ3_checkIndex_8e157_6 : decode cJ3_checkIndex_8e157 6 = .ok (.if_icmp .lt 10, 3) := by decide +kernel
theorem dJ3_checkIndex_8e157_9 : decode cJ3_checkIndex_8e157 9 = .ok (.aload_n 2, 1) := by decide +kernel
theorem dJ3_checkIndex_8e157_10 : decode cJ3_checkIndex_8e157 10 = .ok (.iload_n 0, 1) := by decide +kernel
theorem dJ3_checkIndex_8e157_11 : decode cJ3_checkIndex_8e157 11 = .ok (.iload_n 1, 1) := by decide +kernel
theorem dJ3_checkIndex_8e157_12 : decode cJ3_checkIndex_8e157 12 = .ok (.invokestatic 95, 3) := by decide +kernel
theorem dJ3_checkIndex_8e157_15 : decode cJ3_checkIndex_8e157 15 = .ok (.athrow, 1) := by decide +kernel
theorem dJ3_checkIndex_8e157_16 : decode cJ3_checkIndex_8e157 16 = .ok (.iload_n 0, 1) := by decide +kernel
theorem dJ3_checkIndex_8e157_17 : decode cJ3_checkIndex_8e157 17 = .ok (.ireturn, 1) := by decide +kernel
abbrev mJ0_length : bw_M := (yJ0_length_8abf5, cJ0_length_8abf5, 1, (some .int))
abbrev mJ0_charAt : bw_M := (yJ0_charAt_5068e, cJ0_charAt_5068e, 2, (some .char))
abbrev mJ0_coder : bw_M := (yJ0_coder_7d493, cJ0_coder_7d493, 1, (some .byte))
abbrev mJ0_isLatin1 : bw_M := (yJ0_isLatin1_aae02, cJ0_isLatin1_aae02, 1, (some .boolean))
abbrev mJ0_checkIndex : bw_M := (yJ0_checkIndex_df160, cJ0_checkIndex_df160, 2, none)
abbrev mJ1_charAt : bw_M := (yJ1_charAt_3b067, cJ1_charAt_3b067, 2, (some .char))
abbrev mJ3_checkIndex : bw_M := (yJ3_checkIndex_8e157, cJ3_checkIndex_8e157, 3, (some .int))
theorem cv_BentWords_Cursor_48 : bw_cv "BentWords$Cursor" 48 0 mJ0_length := ⟨bw_mem2 203 (by decide +kernel) rfl, bw_mem2 204 (by decide +kernel) rfl, bw_mem2 205 (by decide +kernel) rfl, bw_mem1 14 (by decide +kernel) rfl, bw_mem2 206 (by decide +kernel) rfl, ⟨by decide, by decide, by decide +kernel⟩, by decide⟩
theorem cv_BentWords_Cursor_53 : bw_cv "BentWords$Cursor" 53 1 mJ0_charAt := ⟨bw_mem2 213 (by decide +kernel) rfl, bw_mem2 214 (by decide +kernel) rfl, bw_mem2 215 (by decide +kernel) rfl, bw_mem1 14 (by decide +kernel) rfl, bw_mem2 216 (by decide +kernel) rfl, ⟨by decide, by decide, by decide +kernel⟩, by decide⟩
theorem cv_String_335 : bw_cv "java/lang/String" 335 0 mJ0_coder := ⟨bw_mem2 207 (by decide +kernel) rfl, bw_mem2 208 (by decide +kernel) rfl, bw_mem2 209 (by decide +kernel) rfl, bw_mem1 14 (by decide +kernel) rfl, bw_mem2 210 (by decide +kernel) rfl, ⟨by decide, by decide, by decide +kernel⟩, by decide⟩
theorem cv_String_492 : bw_cv "java/lang/String" 492 0 mJ0_isLatin1 := ⟨bw_mem2 217 (by decide +kernel) rfl, bw_mem2 218 (by decide +kernel) rfl, bw_mem2 219 (by decide +kernel) rfl, bw_mem1 14 (by decide +kernel) rfl, bw_mem2 220 (by decide +kernel) rfl, ⟨by decide, by decide, by decide +kernel⟩, by decide⟩
theorem cs_String_495 : bw_cs "java/lang/String" 495 2 mJ1_charAt := ⟨bw_mem2 221 (by decide +kernel) rfl, bw_mem2 222 (by decide +kernel) rfl, bw_mem1 15 (by decide +kernel) rfl, bw_mem2 223 (by decide +kernel) rfl, ⟨by decide, by decide, by decide +kernel⟩, by decide⟩
theorem cs_StringLatin1_9 : bw_cs "java/lang/StringLatin1" 9 2 mJ0_checkIndex := ⟨bw_mem2 224 (by decide +kernel) rfl, bw_mem2 225 (by decide +kernel) rfl, bw_mem1 14 (by decide +kernel) rfl, bw_mem2 226 (by decide +kernel) rfl, ⟨by decide, by decide, by decide +kernel⟩, by decide⟩
theorem cs_String_1059 : bw_cs "java/lang/String" 1059 3 mJ3_checkIndex := ⟨bw_mem2 229 (by decide +kernel) rfl, bw_mem2 230 (by decide +kernel) rfl, bw_mem1 16 (by decide +kernel) rfl, bw_mem2 231 (by decide +kernel) rfl, ⟨by decide, by decide, by decide +kernel⟩, by decide⟩
theorem fl_value : Cond.fieldLink "java/lang/String" 9 "java/lang/String" "value" "[B" ∈ bw_tbl := bw_mem8 206 (by decide +kernel) rfl
theorem fl_coder : Cond.fieldLink "java/lang/String" 15 "java/lang/String" "coder" "B" ∈ bw_tbl := bw_mem8 207 (by decide +kernel) rfl
theorem fl_compact : Cond.fieldLink "java/lang/String" 38 "java/lang/String" "COMPACT_STRINGS" "Z" ∈ bw_tbl := bw_mem2 211 (by decide +kernel) rfl
theorem fl_sioobe : Cond.fieldLink "java/lang/String" 1053 "jdk/internal/util/Preconditions" "SIOOBE_FORMATTER" "Ljava/util/function/BiFunction;" ∈ bw_tbl := bw_mem2 227 (by decide +kernel) rfl
/-- the literals' letters -/
def bm_kw (k : Nat) : List Nat := [[14, 15, 21, 14], [6, 15, 18, 13], [1, 18, 20, 9, 3, 12, 5], [16, 18, 15, 14, 15, 21, 14], [13, 5, 19, 19, 1, 7, 5], [6, 9, 12, 12], [5, 13, 16, 20, 25], [19, 20, 18, 9, 3, 20], [4, 18, 15, 16]].getD k []
def bm_kl (k : Nat) : Nat := [4, 4, 7, 7, 7, 4, 5, 6, 4].getD k 0
def bm_ky (k j : Nat) : Int32 := (([[110, 111, 117, 110], [102, 111, 114, 109], [97, 114, 116, 105, 99, 108, 101], [112, 114, 111, 110, 111, 117, 110], [109, 101, 115, 115, 97, 103, 101], [102, 105, 108, 108], [101, 109, 112, 116, 121], [115, 116, 114, 105, 99, 116], [100, 114, 111, 112]] : List (List Int32)).getD k []).getD j 0
theorem bm_kw_ok : ∀ k, k < 9 → (bm_kw k).length = bm_kl k ∧ bm_kl k ≤ 8 ∧ ∀ j, j < bm_kl k → bm_ky k j = nI (96 + (bm_kw k).getD j 0) ∧ (bm_kw k).getD j 0 ≤ 26 := by decide +kernel
section STRS
variable {E : bw_E} {d : Nat} {M : bw_M} {pc : Nat} {L : List (Option Value)} {st : List Value} {w : bw_W} {Q : Option Value → bw_W → Prop} {k : Nat}
theorem bw_strv (hk : k < 9) {idx : Nat} (hc : Cond.fieldLink M.1.cls idx "java/lang/String" "value" "[B" ∈ bw_tbl) (hd : decode M.2.1 pc = .ok (.getfield idx, 3)) (kk : bw_G E d M (pc + 3) L (.ref (2000 + k) :: st) w Q) : bw_G E d M pc L (.ref (1000 + k) :: st) w Q :=
  fun p l e s m args below meth c H locs ls hC hP hS hL => vk_getf hC.1 hC.2.1 (hC.2.2.2.2.2.2.2.2.2.2.2.1.1 k hk).2.2.1 hS hC.2.2.2.2.1 (hC.2.2.2.2.2.1 _ hc) (fun _ h => h) hd (kk p l e s m args below meth c H locs ls hC hP hS hL)
theorem bw_strc (hk : k < 9) {idx : Nat} (hc : Cond.fieldLink M.1.cls idx "java/lang/String" "coder" "B" ∈ bw_tbl) (hd : decode M.2.1 pc = .ok (.getfield idx, 3)) (kk : bw_G E d M (pc + 3) L (.int 0 :: st) w Q) : bw_G E d M pc L (.ref (1000 + k) :: st) w Q :=
  fun p l e s m args below meth c H locs ls hC hP hS hL => vk_getf hC.1 hC.2.1 (hC.2.2.2.2.2.2.2.2.2.2.2.1.1 k hk).2.1 hS hC.2.2.2.2.1 (hC.2.2.2.2.2.1 _ hc) (fun _ h => h) hd (kk p l e s m args below meth c H locs ls hC hP hS hL)
theorem bw_compact {idx : Nat} (hc : Cond.fieldLink M.1.cls idx "java/lang/String" "COMPACT_STRINGS" "Z" ∈ bw_tbl) (hd : decode M.2.1 pc = .ok (.getstatic idx, 3)) (kk : bw_G E d M (pc + 3) L (.int 1 :: st) w Q) : bw_G E d M pc L st w Q :=
  fun p l e s m args below meth c H locs ls hC hP hS hL => va_gets hC.1 hC.2.1 hC.2.2.2.2.2.2.2.2.2.2.1 hS hC.2.2.2.2.1 (hC.2.2.2.2.2.1 _ hc) (fun _ h9 => h9) hd (kk p l e s m args below meth c H locs ls hC hP hS hL)
theorem bw_sioobe {idx : Nat} (hc : Cond.fieldLink M.1.cls idx "jdk/internal/util/Preconditions" "SIOOBE_FORMATTER" "Ljava/util/function/BiFunction;" ∈ bw_tbl) (hd : decode M.2.1 pc = .ok (.getstatic idx, 3)) (k1 : bw_G E d M (pc + 3) L (.null :: st) w Q) (k2 : bw_G E d M (pc + 3) L (.ref 3000 :: st) w Q) : bw_G E d M pc L st w Q := by
  intro p l e s m args below meth c H locs ls hC hP hS hL
  rcases hC.2.2.2.2.2.2.2.2.2.2.2.2.2.2 with z | z
  · exact va_gets hC.1 hC.2.1 z hS hC.2.2.2.2.1 (hC.2.2.2.2.2.1 _ hc) (fun _ h9 => h9) hd (k1 p l e s m args below meth c H locs ls hC hP hS hL)
  · exact va_gets hC.1 hC.2.1 z hS hC.2.2.2.2.1 (hC.2.2.2.2.2.1 _ hc) (fun _ h9 => h9) hd (k2 p l e s m args below meth c H locs ls hC hP hS hL)
theorem bw_alenb (hk : k < 9) (hd : decode M.2.1 pc = .ok (.arraylength, 1)) (kk : bw_G E d M (pc + 1) L (.int (nI (bm_kl k)) :: st) w Q) : bw_G E d M pc L (.ref (2000 + k) :: st) w Q :=
  fun p l e s m args below meth c H locs ls hC hP hS hL => va_tlen hC.1 hC.2.1 (hC.2.2.2.2.2.2.2.2.2.2.2.1.1 k hk).2.2.2 hS rfl hd (kk p l e s m args below meth c H locs ls hC hP hS hL)
theorem bw_baload (hk : k < 9) {i : Int32} (hi : vp_in i (bm_kl k)) (hd : decode M.2.1 pc = .ok (.baload, 1)) (kk : bw_G E d M (pc + 1) L (.int (bm_ky k i.toNatClampNeg) :: st) w Q) : bw_G E d M pc L (.int i :: .ref (2000 + k) :: st) w Q :=
  fun p l e s m args below meth c H locs ls hC hP hS hL => va_tb hC.1 hC.2.1 (hC.2.2.2.2.2.2.2.2.2.2.2.1.1 k hk).2.2.2 hS hi rfl hd (kk p l e s m args below meth c H locs ls hC hP hS hL)
theorem bw_callK {idx n : Nat} {As st0 : List Value} {M' : bw_M} {Q' : Option Value → bw_W → Prop} (hk : k < 9) (hc : bw_cv M.1.cls idx n M') (hcl : M'.1.cls = "java/lang/String") (hr : bw_run E d M' (.ref (1000 + k) :: As) w Q') (hn : As.length = n) (hst : st0 = As.reverse ++ .ref (1000 + k) :: st) (hw : (st.map fun v => v.category).sum ≤ 8) (hd : decode M.2.1 pc = .ok (.invokevirtual idx, 3)) (kk : ∀ r w', Q' r w' → bw_G E (d + 1) M (pc + 3) L (r.toList ++ st) w' Q) : bw_G E (d + 1) M pc L st0 w Q := by
  intro p l e s m args below meth c H locs ls hC hP hS hL
  obtain ⟨c1, c2, c3, c4, c5, c6, c7⟩ := hc
  have ht := hC.2.2.2.2.2.1
  have hrv : ∃ cellB : Cell, H[E.1 (1000 + k)]? = some cellB ∧ cellB.vm.isStatics = false ∧ s.vm.findClass M'.1.cls = some cellB.cls := by
    rw [hcl]
    exact vk_recv (adK := fun i => E.1 (1000 + i)) (i := k) hC.2.2.2.2.2.2.2.2.2.2.2.1 hk hS
  have hcat : ∀ l : List Value, ((l.map (bw_v E)).map fun v => v.category) = l.map fun v => v.category := by
    intro l
    rw [List.map_map]
    exact List.map_congr_left (fun v _ => bw_v_cat E v)
  subst hst
  have := va_runV (p := p) (l := l) (e := e) (below := below) (meth := meth) (R := bw_R (d + 1)) (As := As.map (bw_v E)) (rest := st.map (bw_v E)) (g := F0 m pc ls ((As.reverse ++ .ref (1000 + k) :: st).map (bw_v E))) (cells := 0) (slots := 0) (locs := locs) (S := ⟨hC.1, hC.2.1, hC.2.2.1, hC.2.2.2.2.1, ht⟩) (hr l) (C := M'.1.cls) (index := idx) (n := n) (bytes := M'.2.1) (maxL := M'.2.2.1) (ret := M'.2.2.2) (b := E.1 (1000 + k)) (H := H)
    ⟨callB_of n ht (bw_gw c5) rfl rfl rfl (ht _ c4) (ht _ c1) c6 ⟨Nat.le_refl _, by show 8 + (M'.2.2.1 + 11) + 40 * d ≤ 40 * (d + 1); omega⟩, ht _ c2, ht _ c3⟩
    ⟨bw_blind E _ w, hrv, bw_pre (.ref (1000 + k) :: As) hC hP hS⟩ rfl (by rw [List.length_map]; exact hn) hL.1 (by simp [bw_v]) (by rw [hcat]; simpa [JFrame.monitorRoom] using hw) hd ⟨Nat.le_refl _, Nat.le_refl _⟩
  exact bw_back (st := st) (Q' := Q') hC hS hL this kk
end STRS
section STRM
variable {E : bw_E} {d : Nat} {w : bw_W} {k : Nat}
theorem js_coder {Q : Int32 → bw_W → Prop} (hk : k < 9) (hq : Q 0 w) : bw_ri E (d + 0) mJ0_coder [.ref (1000 + k)] w Q := by
  refine bw_enter rfl (Nat.le_of_ble_eq_true rfl) ?_
  refine bw_compact fl_compact dJ0_coder_7d493_0 ?_
  refine bw_if_eq (tgt := 13) dJ0_coder_7d493_3 (by decide) (fun c => absurd c (by decide)) (fun c => ?_)
  refine bw_aload_n (i := 0) dJ0_coder_7d493_6 rfl rfl ?_
  refine bw_strc hk fl_coder dJ0_coder_7d493_7 ?_
  refine bw_goto (tgt := 14) dJ0_coder_7d493_10 (by decide) ?_
  exact bw_ireturn dJ0_coder_7d493_14 rfl rfl ⟨_, rfl, hq⟩
theorem js_length {Q : Int32 → bw_W → Prop} (hk : k < 9) (hq : Q (nI (bm_kl k)) w) : bw_ri E (d + 1) mJ0_length [.ref (1000 + k)] w Q := by
  have h8 := (bm_kw_ok k hk).2.1
  refine bw_enter rfl (Nat.le_of_ble_eq_true rfl) ?_
  refine bw_aload_n (i := 0) dJ0_length_8abf5_0 rfl rfl ?_
  refine bw_strv hk fl_value dJ0_length_8abf5_1 ?_
  refine bw_alenb hk dJ0_length_8abf5_4 ?_
  refine bw_aload_n (i := 0) dJ0_length_8abf5_5 rfl rfl ?_
  refine bw_callK (As := []) (st := [.int (nI (bm_kl k))]) hk cv_String_335 rfl (js_coder (Q := fun v w' => v = 0 ∧ w = w') hk ⟨rfl, rfl⟩) rfl rfl (Nat.le_of_ble_eq_true rfl) dJ0_length_8abf5_6 (fun r w' hr => ?_)
  obtain ⟨_, rfl, rfl, rfl⟩ := hr
  refine bw_ishr dJ0_length_8abf5_9 ?_
  have e : nI (bm_kl k) >>> ((0 : Int32) &&& 31) = nI (bm_kl k) := by
    have h : ∀ j, j < 9 → nI j >>> ((0 : Int32) &&& 31) = nI j := by decide
    exact h _ (by omega)
  rw [e]
  exact bw_ireturn dJ0_length_8abf5_10 rfl rfl ⟨_, rfl, hq⟩
theorem js_isLatin1 {Q : Int32 → bw_W → Prop} (hk : k < 9) (hq : Q 1 w) : bw_ri E (d + 0) mJ0_isLatin1 [.ref (1000 + k)] w Q := by
  refine bw_enter rfl (Nat.le_of_ble_eq_true rfl) ?_
  refine bw_compact fl_compact dJ0_isLatin1_aae02_0 ?_
  refine bw_if_eq (tgt := 17) dJ0_isLatin1_aae02_3 (by decide) (fun c => absurd c (by decide)) (fun c => ?_)
  refine bw_aload_n (i := 0) dJ0_isLatin1_aae02_6 rfl rfl ?_
  refine bw_strc hk fl_coder dJ0_isLatin1_aae02_7 ?_
  refine bw_if_ne (tgt := 17) dJ0_isLatin1_aae02_10 (by decide) (fun c => absurd rfl c) (fun c => ?_)
  refine bw_iconst (v := 1) dJ0_isLatin1_aae02_13 (by decide) ?_
  refine bw_goto (tgt := 18) dJ0_isLatin1_aae02_14 (by decide) ?_
  exact bw_ireturn dJ0_isLatin1_aae02_18 rfl rfl ⟨_, rfl, hq⟩
theorem js_check3 {Q : Int32 → bw_W → Prop} {i n : Int32} {v : Value} (hv : v.category = 1) (h0 : ¬ i < 0) (h1 : i < n) (hq : Q i w) : bw_ri E (d + 0) mJ3_checkIndex [.int i, .int n, v] w Q := by
  have hen : bw_en [.int i, .int n, v] 3 = [some (.int i), some (.int n), some v] := by
    cases v <;> first | rfl | (exact absurd (show (2 : Nat) = 1 from hv) (by decide))
  refine bw_enter rfl (by
    cases v <;> first | exact Nat.le_of_ble_eq_true rfl | (exact absurd (show (2 : Nat) = 1 from hv) (by decide))) ?_
  show bw_G E (d + 0) mJ3_checkIndex 0 (bw_en [.int i, .int n, v] 3) [] w (bw_qi Q)
  rw [hen]
  refine bw_iload_n (i := 0) dJ3_checkIndex_8e157_0 rfl rfl ?_
  refine bw_if_lt (tgt := 9) dJ3_checkIndex_8e157_1 (by decide) (fun c => absurd c h0) (fun _ => ?_)
  refine bw_iload_n (i := 0) dJ3_checkIndex_8e157_4 rfl rfl ?_
  refine bw_iload_n (i := 1) dJ3_checkIndex_8e157_5 rfl rfl ?_
  refine bw_icmp_lt (tgt := 16) dJ3_checkIndex_8e157_6 (by decide) (fun _ => ?_) (fun c => absurd h1 c)
  refine bw_iload_n (i := 0) dJ3_checkIndex_8e157_16 rfl rfl ?_
  exact bw_ireturn dJ3_checkIndex_8e157_17 rfl rfl ⟨_, rfl, hq⟩
theorem js_check {Q : bw_W → Prop} {i n : Int32} (h0 : ¬ i < 0) (h1 : i < n) (hq : Q w) : bw_rv E (d + 1) mJ0_checkIndex [.int i, .int n] w Q := by
  refine bw_enter rfl (Nat.le_of_ble_eq_true rfl) ?_
  refine bw_iload_n (i := 0) dJ0_checkIndex_df160_0 rfl rfl ?_
  refine bw_iload_n (i := 1) dJ0_checkIndex_df160_1 rfl rfl ?_
  have go : ∀ v : Value, v.category = 1 → bw_G E (d + 1) mJ0_checkIndex 5 [some (.int i), some (.int n)] [v, .int n, .int i] w (bw_qv Q) := fun v hv => by
    refine bw_cSi (As := [.int i, .int n, v]) (st := []) cs_String_1059 (js_check3 (Q := fun _ w' => w = w') hv h0 h1 rfl) rfl rfl (Nat.le_of_ble_eq_true rfl) dJ0_checkIndex_df160_5 (fun v w' h => ?_)
    obtain rfl := h
    refine bw_pop dJ0_checkIndex_df160_8 rfl ?_
    exact bw_return dJ0_checkIndex_df160_9 rfl ⟨rfl, hq⟩
  exact bw_sioobe fl_sioobe dJ0_checkIndex_df160_2 (go .null rfl) (go (.ref 3000) rfl)
theorem js_charL {Q : Int32 → bw_W → Prop} {j : Nat} (hk : k < 9) (hj : j < bm_kl k) (hq : Q (nI (96 + (bm_kw k).getD j 0)) w) : bw_ri E (d + 2) mJ1_charAt [.ref (2000 + k), .int (nI j)] w Q := by
  obtain ⟨h1, h8, h2⟩ := bm_kw_ok k hk
  obtain ⟨h3, h4⟩ := h2 j hj
  refine bw_enter rfl (Nat.le_of_ble_eq_true rfl) ?_
  refine bw_iload_n (i := 1) dJ1_charAt_3b067_0 rfl rfl ?_
  refine bw_aload_n (i := 0) dJ1_charAt_3b067_1 rfl rfl ?_
  refine bw_alenb hk dJ1_charAt_3b067_2 ?_
  refine bw_cSv (As := [.int (nI j), .int (nI (bm_kl k))]) (st := []) cs_StringLatin1_9 (js_check (Q := fun w' => w = w') (nI_pos (by omega)) (nI_lt hj (by omega)) rfl) rfl rfl (Nat.le_of_ble_eq_true rfl) dJ1_charAt_3b067_3 (fun w' h => ?_)
  obtain rfl := h
  refine bw_aload_n (i := 0) dJ1_charAt_3b067_6 rfl rfl ?_
  refine bw_iload_n (i := 1) dJ1_charAt_3b067_7 rfl rfl ?_
  refine bw_baload hk (bm_in hj (by omega)) dJ1_charAt_3b067_8 ?_
  refine bw_sipush (v := 255) dJ1_charAt_3b067_9 (by decide) ?_
  refine bw_iand dJ1_charAt_3b067_12 ?_
  refine bw_i2c dJ1_charAt_3b067_13 ?_
  rw [nI_clamp (by omega), h3]
  have e : ∀ x, x < 27 → (((nI (96 + x) &&& 255).toUInt32 % 65536).toInt32 = nI (96 + x) ∧ narrow .char (.int (nI (96 + x))) = .int (nI (96 + x))) := by decide +kernel
  have e1 := e ((bm_kw k).getD j 0) (by omega)
  rw [e1.1]
  exact bw_ireturn dJ1_charAt_3b067_14 rfl e1.2 ⟨_, rfl, hq⟩
theorem js_charAt {Q : Int32 → bw_W → Prop} {j : Nat} (hk : k < 9) (hj : j < bm_kl k) (hq : Q (nI (96 + (bm_kw k).getD j 0)) w) : bw_ri E (d + 3) mJ0_charAt [.ref (1000 + k), .int (nI j)] w Q := by
  obtain ⟨h1, h8, h2⟩ := bm_kw_ok k hk
  obtain ⟨h3, h4⟩ := h2 j hj
  refine bw_enter rfl (Nat.le_of_ble_eq_true rfl) ?_
  refine bw_aload_n (i := 0) dJ0_charAt_5068e_0 rfl rfl ?_
  refine bw_callK (As := []) (st := []) hk cv_String_492 rfl (js_isLatin1 (d := d + 2) (Q := fun v w' => v = 1 ∧ w = w') hk ⟨rfl, rfl⟩) rfl rfl (Nat.le_of_ble_eq_true rfl) dJ0_charAt_5068e_1 (fun r w' hr => ?_)
  obtain ⟨_, rfl, rfl, rfl⟩ := hr
  refine bw_if_eq (tgt := 16) dJ0_charAt_5068e_4 (by decide) (fun c => absurd c (by decide)) (fun c => ?_)
  refine bw_aload_n (i := 0) dJ0_charAt_5068e_7 rfl rfl ?_
  refine bw_strv hk fl_value dJ0_charAt_5068e_8 ?_
  refine bw_iload_n (i := 1) dJ0_charAt_5068e_11 rfl rfl ?_
  refine bw_cSi (As := [.ref (2000 + k), .int (nI j)]) (st := []) cs_String_495 (js_charL (d := d) (Q := fun v w' => nI (96 + (bm_kw k).getD j 0) = v ∧ w = w') hk hj ⟨rfl, rfl⟩) rfl rfl (Nat.le_of_ble_eq_true rfl) dJ0_charAt_5068e_12 (fun v w' h => ?_)
  obtain ⟨rfl, rfl⟩ := h
  have e : ∀ x, x < 27 → narrow .char (.int (nI (96 + x))) = .int (nI (96 + x)) := by decide +kernel
  exact bw_ireturn dJ0_charAt_5068e_15 rfl (e _ (by omega)) ⟨_, rfl, hq⟩
theorem bm_ls_eq {t u v : List Nat} {q : Nat} (hu : u = bm_ls t q u.length) (h26 : ∀ x ∈ u, 1 ≤ x ∧ x ≤ 26) (hl : u.length = v.length) : u = v ↔ ∀ j, j < u.length → u.getD j 0 = v.getD j 0 := by
  constructor
  · intro e j _; rw [e]
  · intro h
    apply List.ext_getElem hl
    intro i h1 h2
    have := h i h1
    rw [List.getD_eq_getElem?_getD, List.getD_eq_getElem?_getD, List.getElem?_eq_getElem h1, List.getElem?_eq_getElem h2] at this
    exact this
theorem xs_wordIs {Q : Bool → bw_W → Prop} {t u : List Nat} {q : Nat} (hk : k < 9) (ht : bm_wfT t) (hT : bx_T t w) (hu : u = bm_ls t q u.length) (h26 : ∀ x ∈ u, 1 ≤ x ∧ x ≤ 26) (h9 : u.length ≤ 8) (hin : q + u.length ≤ t.length) (hlt : ∀ j, j < u.length → bm_lt (bm_b t (q + j)) = true) (h2 : gw_i w 3 2 = nI q) (h1 : gw_i w 3 1 = nI (q + u.length)) (hq : Q (decide (u = bm_kw k)) w) : bw_rb E (d + 4) mX0_wordIs [.ref 3, .ref (1000 + k)] w Q := by
  have ht1 := ht.1
  obtain ⟨e1, e8, e2⟩ := bm_kw_ok k hk
  refine bw_enter rfl (Nat.le_of_ble_eq_true rfl) ?_
  refine bw_aload_n (i := 0) dX0_wordIs_0 rfl rfl ?_
  refine bw_geti fg_BentWords_Cursor_15 rfl dX0_wordIs_1 ?_
  refine bw_aload_n (i := 0) dX0_wordIs_4 rfl rfl ?_
  refine bw_geti fg_BentWords_Cursor_34 rfl dX0_wordIs_5 ?_
  refine bw_isub dX0_wordIs_8 ?_
  rw [h1, h2, pk_sub (by omega), show q + u.length - q = u.length by omega]
  refine bw_aload_n (i := 1) dX0_wordIs_9 rfl rfl ?_
  refine bw_callK (As := []) (st := [.int (nI u.length)]) hk cv_BentWords_Cursor_48 rfl (js_length (d := d + 2) (Q := fun v w' => v = nI (bm_kl k) ∧ w = w') hk ⟨rfl, rfl⟩) rfl rfl (Nat.le_of_ble_eq_true rfl) dX0_wordIs_10 (fun r w' hr => ?_)
  obtain ⟨_, rfl, rfl, rfl⟩ := hr
  refine bw_icmp_eq (tgt := 18) dX0_wordIs_13 (by decide) (fun c => ?_) (fun c => ?_)
  · have el : u.length = bm_kl k := (nI_eq (by omega) (by omega)).mp c
    refine bw_iconst (v := 0) dX0_wordIs_18 (by decide) ?_
    refine bw_istore_n (i := 2) (L' := [some (.ref 3), some (.ref (1000 + k)), some (.int (nI 0))]) dX0_wordIs_19 rfl (by decide) rfl ?_
    have key : ∀ n i, i + n = u.length → (∀ j, j < i → u.getD j 0 = (bm_kw k).getD j 0) → bw_G E (d + 4) mX0_wordIs 20 [some (.ref 3), some (.ref (1000 + k)), some (.int (nI i))] [] w (bw_qb Q) := by
      intro n
      induction n with
      | zero =>
        intro i hi hj
        refine bw_iload_n (i := 2) dX0_wordIs_20 rfl rfl ?_
        refine bw_aload_n (i := 1) dX0_wordIs_21 rfl rfl ?_
        refine bw_callK (As := []) (st := [.int (nI i)]) hk cv_BentWords_Cursor_48 rfl (js_length (d := d + 2) (Q := fun v w' => v = nI (bm_kl k) ∧ w = w') hk ⟨rfl, rfl⟩) rfl rfl (Nat.le_of_ble_eq_true rfl) dX0_wordIs_22 (fun r w' hr => ?_)
        obtain ⟨_, rfl, rfl, rfl⟩ := hr
        refine bw_icmp_ge (tgt := 58) dX0_wordIs_25 (by decide) (fun _ => ?_) (fun c => absurd (nI_le (by omega) (by omega)) c)
        refine bw_iconst (v := 1) dX0_wordIs_58 (by decide) ?_
        have e : u = bm_kw k := (bm_ls_eq hu h26 (by omega)).mpr (fun j hj2 => hj j (by omega))
        rw [decide_eq_true e] at hq
        exact bw_ireturn dX0_wordIs_59 rfl rfl ⟨true, rfl, hq⟩
      | succ n ih =>
        intro i hi hj
        obtain ⟨e3, e4⟩ := e2 i (by omega)
        refine bw_iload_n (i := 2) dX0_wordIs_20 rfl rfl ?_
        refine bw_aload_n (i := 1) dX0_wordIs_21 rfl rfl ?_
        refine bw_callK (As := []) (st := [.int (nI i)]) hk cv_BentWords_Cursor_48 rfl (js_length (d := d + 2) (Q := fun v w' => v = nI (bm_kl k) ∧ w = w') hk ⟨rfl, rfl⟩) rfl rfl (Nat.le_of_ble_eq_true rfl) dX0_wordIs_22 (fun r w' hr => ?_)
        obtain ⟨_, rfl, rfl, rfl⟩ := hr
        refine bw_icmp_ge (tgt := 58) dX0_wordIs_25 (by decide) (fun c => absurd c (nI_ge (by omega) (by omega))) (fun _ => ?_)
        refine bw_aload_n (i := 0) dX0_wordIs_28 rfl rfl ?_
        refine bw_getr (r := 1) fg_BentWords_Cursor_9 rfl rfl dX0_wordIs_29 ?_
        refine bw_getr (r := 2) fg_BentWords_Cursor_27 rfl rfl dX0_wordIs_32 ?_
        refine bw_aload_n (i := 0) dX0_wordIs_35 rfl rfl ?_
        refine bw_geti fg_BentWords_Cursor_34 rfl dX0_wordIs_36 ?_
        refine bw_iload_n (i := 2) dX0_wordIs_39 rfl rfl ?_
        refine bw_iadd dX0_wordIs_40 ?_
        rw [h2, nI_add]
        refine bw_caload rfl (bm_in (by omega) (by decide)) dX0_wordIs_41 ?_
        rw [nI_clamp (by omega), bx_T_b hT (by omega)]
        refine bw_aload_n (i := 1) dX0_wordIs_42 rfl rfl ?_
        refine bw_iload_n (i := 2) dX0_wordIs_43 rfl rfl ?_
        refine bw_callK (As := [.int (nI i)]) (st := [.int (nI (bm_b t (q + i)))]) hk cv_BentWords_Cursor_53 rfl (js_charAt (d := d) (Q := fun v w' => v = nI (96 + (bm_kw k).getD i 0) ∧ w = w') hk (by omega) ⟨rfl, rfl⟩) rfl rfl (Nat.le_of_ble_eq_true rfl) dX0_wordIs_44 (fun r w' hr => ?_)
        obtain ⟨_, rfl, rfl, rfl⟩ := hr
        have hb := bm_b_lt (q + i) ht
        have hl := of_decide_eq_true (hlt i (by omega))
        have eu : u.getD i 0 = bm_b t (q + i) - 96 := by
          have := bm_ls_at t q u.length i (by omega)
          rw [← hu] at this; exact this
        refine bw_icmp_eq (tgt := 52) dX0_wordIs_47 (by decide) (fun c => ?_) (fun c => ?_)
        · have c' := (nI_eq (by omega) (by omega)).mp c
          refine bw_iinc (v := nI (i + 1)) (L' := [some (.ref 3), some (.ref (1000 + k)), some (.int (nI (i + 1)))]) dX0_wordIs_52 rfl (nI_1 i) (by decide) rfl ?_
          refine bw_goto (tgt := 20) dX0_wordIs_55 (by decide) ?_
          refine ih (i + 1) (by omega) (fun j hj2 => ?_)
          by_cases ej : j = i
          · rw [ej, eu]; omega
          · exact hj j (by omega)
        · have e : u ≠ bm_kw k := fun z => by
            apply c
            have : u.getD i 0 = (bm_kw k).getD i 0 := by rw [z]
            rw [eu] at this
            congr 1; omega
          rw [decide_eq_false e] at hq
          refine bw_iconst (v := 0) dX0_wordIs_50 (by decide) ?_
          exact bw_ireturn dX0_wordIs_51 rfl rfl ⟨false, rfl, hq⟩
    exact key u.length 0 (by omega) (fun j hj => absurd hj (Nat.not_lt_zero j))
  · have e : u ≠ bm_kw k := fun z => c (by rw [z, e1])
    rw [decide_eq_false e] at hq
    refine bw_iconst (v := 0) dX0_wordIs_16 (by decide) ?_
    exact bw_ireturn dX0_wordIs_17 rfl rfl ⟨false, rfl, hq⟩
end STRM
