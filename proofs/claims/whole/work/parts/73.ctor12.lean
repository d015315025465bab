/-! the reference's constructor -/
theorem kf_X12_9 : bk_fp "BentWordsModel" 9 12 52 1 (tyX12 1) := ⟨RX12, TX12, tyX12, tyX12_ok, nmX12, in_X12, rfl, by decide, bw_mem5 199 (by decide +kernel) rfl, rfl, rfl, tyX12_ok 1 (by decide)⟩
theorem kf_X12_13 : bk_fp "BentWordsModel" 13 12 52 12 (tyX12 12) := ⟨RX12, TX12, tyX12, tyX12_ok, nmX12, in_X12, rfl, by decide, bw_mem5 210 (by decide +kernel) rfl, rfl, rfl, tyX12_ok 12 (by decide)⟩
theorem kf_X12_17 : bk_fp "BentWordsModel" 17 12 52 13 (tyX12 13) := ⟨RX12, TX12, tyX12, tyX12_ok, nmX12, in_X12, rfl, by decide, bw_mem5 211 (by decide +kernel) rfl, rfl, rfl, tyX12_ok 13 (by decide)⟩
theorem kf_X12_20 : bk_fp "BentWordsModel" 20 12 52 14 (tyX12 14) := ⟨RX12, TX12, tyX12, tyX12_ok, nmX12, in_X12, rfl, by decide, bw_mem5 212 (by decide +kernel) rfl, rfl, rfl, tyX12_ok 14 (by decide)⟩
theorem kf_X12_23 : bk_fp "BentWordsModel" 23 12 52 15 (tyX12 15) := ⟨RX12, TX12, tyX12, tyX12_ok, nmX12, in_X12, rfl, by decide, bw_mem5 213 (by decide +kernel) rfl, rfl, rfl, tyX12_ok 15 (by decide)⟩
theorem kf_X12_26 : bk_fp "BentWordsModel" 26 12 52 16 (tyX12 16) := ⟨RX12, TX12, tyX12, tyX12_ok, nmX12, in_X12, rfl, by decide, bw_mem5 214 (by decide +kernel) rfl, rfl, rfl, tyX12_ok 16 (by decide)⟩
theorem kf_X12_29 : bk_fp "BentWordsModel" 29 12 52 17 (tyX12 17) := ⟨RX12, TX12, tyX12, tyX12_ok, nmX12, in_X12, rfl, by decide, bw_mem5 215 (by decide +kernel) rfl, rfl, rfl, tyX12_ok 17 (by decide)⟩
theorem kf_X12_32 : bk_fp "BentWordsModel" 32 12 52 18 (tyX12 18) := ⟨RX12, TX12, tyX12, tyX12_ok, nmX12, in_X12, rfl, by decide, bw_mem5 216 (by decide +kernel) rfl, rfl, rfl, tyX12_ok 18 (by decide)⟩
theorem kf_X12_35 : bk_fp "BentWordsModel" 35 12 52 19 (tyX12 19) := ⟨RX12, TX12, tyX12, tyX12_ok, nmX12, in_X12, rfl, by decide, bw_mem5 217 (by decide +kernel) rfl, rfl, rfl, tyX12_ok 19 (by decide)⟩
theorem kf_X12_38 : bk_fp "BentWordsModel" 38 12 52 22 (tyX12 22) := ⟨RX12, TX12, tyX12, tyX12_ok, nmX12, in_X12, rfl, by decide, bw_mem5 220 (by decide +kernel) rfl, rfl, rfl, tyX12_ok 22 (by decide)⟩
theorem kf_X12_41 : bk_fp "BentWordsModel" 41 12 52 23 (tyX12 23) := ⟨RX12, TX12, tyX12, tyX12_ok, nmX12, in_X12, rfl, by decide, bw_mem5 221 (by decide +kernel) rfl, rfl, rfl, tyX12_ok 23 (by decide)⟩
theorem kf_X12_44 : bk_fp "BentWordsModel" 44 12 52 24 (tyX12 24) := ⟨RX12, TX12, tyX12, tyX12_ok, nmX12, in_X12, rfl, by decide, bw_mem5 222 (by decide +kernel) rfl, rfl, rfl, tyX12_ok 24 (by decide)⟩
theorem kf_X12_47 : bk_fp "BentWordsModel" 47 12 52 26 (tyX12 26) := ⟨RX12, TX12, tyX12, tyX12_ok, nmX12, in_X12, rfl, by decide, bw_mem5 224 (by decide +kernel) rfl, rfl, rfl, tyX12_ok 26 (by decide)⟩
theorem kf_X12_50 : bk_fp "BentWordsModel" 50 12 52 27 (tyX12 27) := ⟨RX12, TX12, tyX12, tyX12_ok, nmX12, in_X12, rfl, by decide, bw_mem5 225 (by decide +kernel) rfl, rfl, rfl, tyX12_ok 27 (by decide)⟩
theorem kf_X12_53 : bk_fp "BentWordsModel" 53 12 52 28 (tyX12 28) := ⟨RX12, TX12, tyX12, tyX12_ok, nmX12, in_X12, rfl, by decide, bw_mem5 226 (by decide +kernel) rfl, rfl, rfl, tyX12_ok 28 (by decide)⟩
theorem kf_X12_56 : bk_fp "BentWordsModel" 56 12 52 29 (tyX12 29) := ⟨RX12, TX12, tyX12, tyX12_ok, nmX12, in_X12, rfl, by decide, bw_mem5 227 (by decide +kernel) rfl, rfl, rfl, tyX12_ok 29 (by decide)⟩
theorem kf_X12_59 : bk_fp "BentWordsModel" 59 12 52 30 (tyX12 30) := ⟨RX12, TX12, tyX12, tyX12_ok, nmX12, in_X12, rfl, by decide, bw_mem5 228 (by decide +kernel) rfl, rfl, rfl, tyX12_ok 30 (by decide)⟩
theorem kf_X12_62 : bk_fp "BentWordsModel" 62 12 52 31 (tyX12 31) := ⟨RX12, TX12, tyX12, tyX12_ok, nmX12, in_X12, rfl, by decide, bw_mem5 229 (by decide +kernel) rfl, rfl, rfl, tyX12_ok 31 (by decide)⟩
theorem kf_X12_65 : bk_fp "BentWordsModel" 65 12 52 32 (tyX12 32) := ⟨RX12, TX12, tyX12, tyX12_ok, nmX12, in_X12, rfl, by decide, bw_mem5 230 (by decide +kernel) rfl, rfl, rfl, tyX12_ok 32 (by decide)⟩
theorem kf_X12_68 : bk_fp "BentWordsModel" 68 12 52 33 (tyX12 33) := ⟨RX12, TX12, tyX12, tyX12_ok, nmX12, in_X12, rfl, by decide, bw_mem5 231 (by decide +kernel) rfl, rfl, rfl, tyX12_ok 33 (by decide)⟩
theorem kf_X12_71 : bk_fp "BentWordsModel" 71 12 52 36 (tyX12 36) := ⟨RX12, TX12, tyX12, tyX12_ok, nmX12, in_X12, rfl, by decide, bw_mem5 234 (by decide +kernel) rfl, rfl, rfl, tyX12_ok 36 (by decide)⟩
theorem kf_X12_74 : bk_fp "BentWordsModel" 74 12 52 41 (tyX12 41) := ⟨RX12, TX12, tyX12, tyX12_ok, nmX12, in_X12, rfl, by decide, bw_mem5 239 (by decide +kernel) rfl, rfl, rfl, tyX12_ok 41 (by decide)⟩
theorem kf_X12_77 : bk_fp "BentWordsModel" 77 12 52 44 (tyX12 44) := ⟨RX12, TX12, tyX12, tyX12_ok, nmX12, in_X12, rfl, by decide, bw_mem6 2 (by decide +kernel) rfl, rfl, rfl, tyX12_ok 44 (by decide)⟩
theorem kf_X12_80 : bk_fp "BentWordsModel" 80 12 52 45 (tyX12 45) := ⟨RX12, TX12, tyX12, tyX12_ok, nmX12, in_X12, rfl, by decide, bw_mem6 3 (by decide +kernel) rfl, rfl, rfl, tyX12_ok 45 (by decide)⟩
theorem kf_X12_83 : bk_fp "BentWordsModel" 83 12 52 46 (tyX12 46) := ⟨RX12, TX12, tyX12, tyX12_ok, nmX12, in_X12, rfl, by decide, bw_mem6 4 (by decide +kernel) rfl, rfl, rfl, tyX12_ok 46 (by decide)⟩
theorem kf_X12_86 : bk_fp "BentWordsModel" 86 12 52 50 (tyX12 50) := ⟨RX12, TX12, tyX12, tyX12_ok, nmX12, in_X12, rfl, by decide, bw_mem6 8 (by decide +kernel) rfl, rfl, rfl, tyX12_ok 50 (by decide)⟩
def bkM0 (_ : bw_E) (_ : Nat) : List va_E := []
theorem bkM0_len {E : bw_E} {K : Nat} : (bkM0 E K).length = 0 := rfl
def bkM1 (E : bw_E) (K : Nat) : List va_E := bkM0 E K ++ [.inl (E.2.2.2 0, 480, .inl (fun _ => 0))]
theorem bkM1_len {E : bw_E} {K : Nat} : (bkM1 E K).length = 1 := by unfold bkM1; rw [List.length_append, bkM0_len]; rfl
def bkM2 (E : bw_E) (K : Nat) : List va_E := bkM1 E K ++ [.inl (E.2.2.2 1, 6, .inr (.inl (fun _ => 0)))]
theorem bkM2_len {E : bw_E} {K : Nat} : (bkM2 E K).length = 2 := by unfold bkM2; rw [List.length_append, bkM1_len]; rfl
def bkM3 (E : bw_E) (K : Nat) : List va_E := bkM2 E K ++ [.inl (E.2.2.2 0, 6, .inl (fun _ => 0))]
theorem bkM3_len {E : bw_E} {K : Nat} : (bkM3 E K).length = 3 := by unfold bkM3; rw [List.length_append, bkM2_len]; rfl
def bkM4 (E : bw_E) (K : Nat) : List va_E := bkM3 E K ++ [.inl (E.2.2.2 1, 48, .inr (.inl (fun _ => 0)))]
theorem bkM4_len {E : bw_E} {K : Nat} : (bkM4 E K).length = 4 := by unfold bkM4; rw [List.length_append, bkM3_len]; rfl
def bkM5 (E : bw_E) (K : Nat) : List va_E := bkM4 E K ++ [.inl (E.2.2.2 1, 48, .inr (.inl (fun _ => 0)))]
theorem bkM5_len {E : bw_E} {K : Nat} : (bkM5 E K).length = 5 := by unfold bkM5; rw [List.length_append, bkM4_len]; rfl
def bkM6 (E : bw_E) (K : Nat) : List va_E := bkM5 E K ++ [.inl (E.2.2.2 1, 4, .inr (.inl (fun _ => 0)))]
theorem bkM6_len {E : bw_E} {K : Nat} : (bkM6 E K).length = 6 := by unfold bkM6; rw [List.length_append, bkM5_len]; rfl
def bkM7 (E : bw_E) (K : Nat) : List va_E := bkM6 E K ++ [.inl (E.2.2.2 0, 4, .inl (fun _ => 0))]
theorem bkM7_len {E : bw_E} {K : Nat} : (bkM7 E K).length = 7 := by unfold bkM7; rw [List.length_append, bkM6_len]; rfl
def bkM8 (E : bw_E) (K : Nat) : List va_E := bkM7 E K ++ [.inl (E.2.2.2 0, 96, .inl (fun _ => 0))]
theorem bkM8_len {E : bw_E} {K : Nat} : (bkM8 E K).length = 8 := by unfold bkM8; rw [List.length_append, bkM7_len]; rfl
def bkM9 (E : bw_E) (K : Nat) : List va_E := bkM8 E K ++ [.inl (E.2.2.2 1, 32, .inr (.inl (fun _ => 0)))]
theorem bkM9_len {E : bw_E} {K : Nat} : (bkM9 E K).length = 9 := by unfold bkM9; rw [List.length_append, bkM8_len]; rfl
def bkM10 (E : bw_E) (K : Nat) : List va_E := bkM9 E K ++ [.inl (E.2.2.2 0, 240, .inl (fun _ => 0))]
theorem bkM10_len {E : bw_E} {K : Nat} : (bkM10 E K).length = 10 := by unfold bkM10; rw [List.length_append, bkM9_len]; rfl
def bkM11 (E : bw_E) (K : Nat) : List va_E := bkM10 E K ++ [.inl (E.2.2.2 1, 60, .inr (.inl (fun _ => 0)))]
theorem bkM11_len {E : bw_E} {K : Nat} : (bkM11 E K).length = 11 := by unfold bkM11; rw [List.length_append, bkM10_len]; rfl
def bkM12 (E : bw_E) (K : Nat) : List va_E := bkM11 E K ++ [.inl (E.2.2.2 0, 5, .inl (fun _ => 0))]
theorem bkM12_len {E : bw_E} {K : Nat} : (bkM12 E K).length = 12 := by unfold bkM12; rw [List.length_append, bkM11_len]; rfl
def bkM13 (E : bw_E) (K : Nat) : List va_E := bkM12 E K ++ [.inl (E.2.2.2 1, 236, .inr (.inl (fun _ => 0)))]
theorem bkM13_len {E : bw_E} {K : Nat} : (bkM13 E K).length = 13 := by unfold bkM13; rw [List.length_append, bkM12_len]; rfl
def bkM14 (E : bw_E) (K : Nat) : List va_E := bkM13 E K ++ [.inl (E.2.2.2 0, 3, .inl (fun _ => 0))]
theorem bkM14_len {E : bw_E} {K : Nat} : (bkM14 E K).length = 14 := by unfold bkM14; rw [List.length_append, bkM13_len]; rfl
def bkM15 (E : bw_E) (K : Nat) : List va_E := bkM14 E K ++ [.inl (E.2.2.2 1, 6, .inr (.inl (fun _ => 0)))]
theorem bkM15_len {E : bw_E} {K : Nat} : (bkM15 E K).length = 15 := by unfold bkM15; rw [List.length_append, bkM14_len]; rfl
def bkM16 (E : bw_E) (K : Nat) : List va_E := bkM15 E K ++ [.inl (E.2.2.2 0, 6, .inl (fun _ => 0))]
theorem bkM16_len {E : bw_E} {K : Nat} : (bkM16 E K).length = 16 := by unfold bkM16; rw [List.length_append, bkM15_len]; rfl
def bkM17 (E : bw_E) (K : Nat) : List va_E := bkM16 E K ++ [.inl (E.2.2.2 1, 48, .inr (.inl (fun _ => 0)))]
theorem bkM17_len {E : bw_E} {K : Nat} : (bkM17 E K).length = 17 := by unfold bkM17; rw [List.length_append, bkM16_len]; rfl
def bkM18 (E : bw_E) (K : Nat) : List va_E := bkM17 E K ++ [.inl (E.2.2.2 0, 4, .inl (fun _ => 0))]
theorem bkM18_len {E : bw_E} {K : Nat} : (bkM18 E K).length = 18 := by unfold bkM18; rw [List.length_append, bkM17_len]; rfl
def bkM19 (E : bw_E) (K : Nat) : List va_E := bkM18 E K ++ [.inl (E.2.2.2 0, 96, .inl (fun _ => 0))]
theorem bkM19_len {E : bw_E} {K : Nat} : (bkM19 E K).length = 19 := by unfold bkM19; rw [List.length_append, bkM18_len]; rfl
def bkM20 (E : bw_E) (K : Nat) : List va_E := bkM19 E K ++ [.inl (E.2.2.2 1, 32, .inr (.inl (fun _ => 0)))]
theorem bkM20_len {E : bw_E} {K : Nat} : (bkM20 E K).length = 20 := by unfold bkM20; rw [List.length_append, bkM19_len]; rfl
def bkM21 (E : bw_E) (K : Nat) : List va_E := bkM20 E K ++ [.inl (E.2.2.2 0, 200, .inl (fun _ => 0))]
theorem bkM21_len {E : bw_E} {K : Nat} : (bkM21 E K).length = 21 := by unfold bkM21; rw [List.length_append, bkM20_len]; rfl
def bkM22 (E : bw_E) (K : Nat) : List va_E := bkM21 E K ++ [.inl (E.2.2.2 1, 9440, .inr (.inl (fun _ => 0)))]
theorem bkM22_len {E : bw_E} {K : Nat} : (bkM22 E K).length = 22 := by unfold bkM22; rw [List.length_append, bkM21_len]; rfl
def bkM23 (E : bw_E) (K : Nat) : List va_E := bkM22 E K ++ [.inl (E.2.2.2 1, 55, .inr (.inl (fun _ => 0)))]
theorem bkM23_len {E : bw_E} {K : Nat} : (bkM23 E K).length = 23 := by unfold bkM23; rw [List.length_append, bkM22_len]; rfl
def bkM24 (E : bw_E) (K : Nat) : List va_E := bkM23 E K ++ [.inl (E.2.2.2 0, 3, .inl (fun _ => 0))]
theorem bkM24_len {E : bw_E} {K : Nat} : (bkM24 E K).length = 24 := by unfold bkM24; rw [List.length_append, bkM23_len]; rfl
def bkM25 (E : bw_E) (K : Nat) : List va_E := bkM24 E K ++ [.inl (E.2.2.2 0, 3, .inl (fun _ => 0))]
theorem bkM25_len {E : bw_E} {K : Nat} : (bkM25 E K).length = 25 := by unfold bkM25; rw [List.length_append, bkM24_len]; rfl
def bkM26 (E : bw_E) (K : Nat) : List va_E := bkM25 E K ++ [.inl (E.2.2.2 1, 236, .inr (.inl (fun _ => 0)))]
theorem bkM26_len {E : bw_E} {K : Nat} : (bkM26 E K).length = 26 := by unfold bkM26; rw [List.length_append, bkM25_len]; rfl
set_option maxRecDepth 20000 in
theorem kX12 {E : bw_E} {cs : List va_E} {j K : Nat} (hj : cs[j]? = some (.inr (12, [.int 0, .null, .int 0, .int 0, .int 0, .int 0, .int 0, .int 0, .int 0, .int 0, .int 0, .long 0, .null, .null, .null, .null, .null, .null, .null, .null, .int 0, .int 0, .null, .null, .null, .int 0, .null, .null, .null, .null, .null, .null, .null, .null, .int 0, .int 0, .null, .int 0, .int 0, .int 0, .int 0, .null, .int 0, .long 0, .null, .null, .null, .int 0, .int 0, .int 0, .null, .int 0]))) (hK : cs.length = K) : bk_run E 1 mX12_init [.ref j] cs (bk_nf cs j (.inr (12, [.int 0, .ref (E.1 (K + 0)), .int 0, .int 0, .int 0, .int 0, .int 0, .int 0, .int 0, .int 0, .int 0, .long 0, .ref (E.1 (K + 1)), .ref (E.1 (K + 2)), .ref (E.1 (K + 3)), .ref (E.1 (K + 4)), .ref (E.1 (K + 5)), .ref (E.1 (K + 6)), .ref (E.1 (K + 7)), .ref (E.1 (K + 8)), .int 0, .int 0, .ref (E.1 (K + 9)), .ref (E.1 (K + 10)), .ref (E.1 (K + 11)), .int 0, .ref (E.1 (K + 12)), .ref (E.1 (K + 13)), .ref (E.1 (K + 14)), .ref (E.1 (K + 15)), .ref (E.1 (K + 16)), .ref (E.1 (K + 17)), .ref (E.1 (K + 18)), .ref (E.1 (K + 19)), .int 0, .int 0, .ref (E.1 (K + 20)), .int 0, .int 0, .int 0, .int 0, .ref (E.1 (K + 21)), .int 0, .long 0, .ref (E.1 (K + 22)), .ref (E.1 (K + 23)), .ref (E.1 (K + 24)), .int 0, .int 0, .int 0, .ref (E.1 (K + 25)), .int 0])) (bkM26 E K)) 26 11397 := by
  have hjl := (List.getElem?_eq_some_iff.mp hj).1
  refine bk_enter (by decide) rfl (Nat.le_of_ble_eq_true rfl) ?_
  refine bk_eq (bk_nf0 hj) ?_
  refine bk_aload_n dX12_init_0 rfl rfl ?_
  refine bk_oinit (bw_mem5 197 (by decide +kernel) rfl) ⟨(Nat.le_of_ble_eq_true rfl), (Nat.le_of_ble_eq_true rfl)⟩ dX12_init_1 ?_
  refine bk_eq (cs1 := bk_nf cs j _ (bkM0 E K)) rfl ?_
  refine bk_aload_n dX12_init_4 rfl rfl ?_
  refine bk_sipush (v := 480) dX12_init_5 rfl ?_
  refine bn_newi (m := 0) (N := 480) hK bkM0_len rfl (by decide) (by decide) (Nat.le_of_ble_eq_true rfl) (Nat.le_of_ble_eq_true rfl) dX12_init_8 ?_
  refine bk_eq (cs1 := bk_nf cs j _ (bkM1 E K)) rfl ?_
  refine bn_put (k := 1) (x := K + 0) hjl kf_X12_9 (fun _ => ⟨rfl, rfl⟩) (Nat.le_of_ble_eq_true rfl) dX12_init_10 ?_
  refine bk_eq (cs1 := bk_nf cs j (.inr (12, [.int 0, .ref (E.1 (K + 0)), .int 0, .int 0, .int 0, .int 0, .int 0, .int 0, .int 0, .int 0, .int 0, .long 0, .null, .null, .null, .null, .null, .null, .null, .null, .int 0, .int 0, .null, .null, .null, .int 0, .null, .null, .null, .null, .null, .null, .null, .null, .int 0, .int 0, .null, .int 0, .int 0, .int 0, .int 0, .null, .int 0, .long 0, .null, .null, .null, .int 0, .int 0, .int 0, .null, .int 0])) (bkM1 E K)) rfl ?_
  refine bk_aload_n dX12_init_13 rfl rfl ?_
  refine bk_bipush (v := 6) dX12_init_14 rfl ?_
  refine bn_newl (m := 1) (N := 6) hK bkM1_len rfl (by decide) (by decide) (Nat.le_of_ble_eq_true rfl) (Nat.le_of_ble_eq_true rfl) dX12_init_16 ?_
  refine bk_eq (cs1 := bk_nf cs j _ (bkM2 E K)) rfl ?_
  refine bn_put (k := 12) (x := K + 1) hjl kf_X12_13 (fun _ => ⟨rfl, rfl⟩) (Nat.le_of_ble_eq_true rfl) dX12_init_18 ?_
  refine bk_eq (cs1 := bk_nf cs j (.inr (12, [.int 0, .ref (E.1 (K + 0)), .int 0, .int 0, .int 0, .int 0, .int 0, .int 0, .int 0, .int 0, .int 0, .long 0, .ref (E.1 (K + 1)), .null, .null, .null, .null, .null, .null, .null, .int 0, .int 0, .null, .null, .null, .int 0, .null, .null, .null, .null, .null, .null, .null, .null, .int 0, .int 0, .null, .int 0, .int 0, .int 0, .int 0, .null, .int 0, .long 0, .null, .null, .null, .int 0, .int 0, .int 0, .null, .int 0])) (bkM2 E K)) rfl ?_
  refine bk_aload_n dX12_init_21 rfl rfl ?_
  refine bk_bipush (v := 6) dX12_init_22 rfl ?_
  refine bn_newi (m := 2) (N := 6) hK bkM2_len rfl (by decide) (by decide) (Nat.le_of_ble_eq_true rfl) (Nat.le_of_ble_eq_true rfl) dX12_init_24 ?_
  refine bk_eq (cs1 := bk_nf cs j _ (bkM3 E K)) rfl ?_
  refine bn_put (k := 13) (x := K + 2) hjl kf_X12_17 (fun _ => ⟨rfl, rfl⟩) (Nat.le_of_ble_eq_true rfl) dX12_init_26 ?_
  refine bk_eq (cs1 := bk_nf cs j (.inr (12, [.int 0, .ref (E.1 (K + 0)), .int 0, .int 0, .int 0, .int 0, .int 0, .int 0, .int 0, .int 0, .int 0, .long 0, .ref (E.1 (K + 1)), .ref (E.1 (K + 2)), .null, .null, .null, .null, .null, .null, .int 0, .int 0, .null, .null, .null, .int 0, .null, .null, .null, .null, .null, .null, .null, .null, .int 0, .int 0, .null, .int 0, .int 0, .int 0, .int 0, .null, .int 0, .long 0, .null, .null, .null, .int 0, .int 0, .int 0, .null, .int 0])) (bkM3 E K)) rfl ?_
  refine bk_aload_n dX12_init_29 rfl rfl ?_
  refine bk_bipush (v := 48) dX12_init_30 rfl ?_
  refine bn_newl (m := 3) (N := 48) hK bkM3_len rfl (by decide) (by decide) (Nat.le_of_ble_eq_true rfl) (Nat.le_of_ble_eq_true rfl) dX12_init_32 ?_
  refine bk_eq (cs1 := bk_nf cs j _ (bkM4 E K)) rfl ?_
  refine bn_put (k := 14) (x := K + 3) hjl kf_X12_20 (fun _ => ⟨rfl, rfl⟩) (Nat.le_of_ble_eq_true rfl) dX12_init_34 ?_
  refine bk_eq (cs1 := bk_nf cs j (.inr (12, [.int 0, .ref (E.1 (K + 0)), .int 0, .int 0, .int 0, .int 0, .int 0, .int 0, .int 0, .int 0, .int 0, .long 0, .ref (E.1 (K + 1)), .ref (E.1 (K + 2)), .ref (E.1 (K + 3)), .null, .null, .null, .null, .null, .int 0, .int 0, .null, .null, .null, .int 0, .null, .null, .null, .null, .null, .null, .null, .null, .int 0, .int 0, .null, .int 0, .int 0, .int 0, .int 0, .null, .int 0, .long 0, .null, .null, .null, .int 0, .int 0, .int 0, .null, .int 0])) (bkM4 E K)) rfl ?_
  refine bk_aload_n dX12_init_37 rfl rfl ?_
  refine bk_bipush (v := 48) dX12_init_38 rfl ?_
  refine bn_newl (m := 4) (N := 48) hK bkM4_len rfl (by decide) (by decide) (Nat.le_of_ble_eq_true rfl) (Nat.le_of_ble_eq_true rfl) dX12_init_40 ?_
  refine bk_eq (cs1 := bk_nf cs j _ (bkM5 E K)) rfl ?_
  refine bn_put (k := 15) (x := K + 4) hjl kf_X12_23 (fun _ => ⟨rfl, rfl⟩) (Nat.le_of_ble_eq_true rfl) dX12_init_42 ?_
  refine bk_eq (cs1 := bk_nf cs j (.inr (12, [.int 0, .ref (E.1 (K + 0)), .int 0, .int 0, .int 0, .int 0, .int 0, .int 0, .int 0, .int 0, .int 0, .long 0, .ref (E.1 (K + 1)), .ref (E.1 (K + 2)), .ref (E.1 (K + 3)), .ref (E.1 (K + 4)), .null, .null, .null, .null, .int 0, .int 0, .null, .null, .null, .int 0, .null, .null, .null, .null, .null, .null, .null, .null, .int 0, .int 0, .null, .int 0, .int 0, .int 0, .int 0, .null, .int 0, .long 0, .null, .null, .null, .int 0, .int 0, .int 0, .null, .int 0])) (bkM5 E K)) rfl ?_
  refine bk_aload_n dX12_init_45 rfl rfl ?_
  refine bk_iconst (v := 4) dX12_init_46 rfl ?_
  refine bn_newl (m := 5) (N := 4) hK bkM5_len rfl (by decide) (by decide) (Nat.le_of_ble_eq_true rfl) (Nat.le_of_ble_eq_true rfl) dX12_init_47 ?_
  refine bk_eq (cs1 := bk_nf cs j _ (bkM6 E K)) rfl ?_
  refine bn_put (k := 16) (x := K + 5) hjl kf_X12_26 (fun _ => ⟨rfl, rfl⟩) (Nat.le_of_ble_eq_true rfl) dX12_init_49 ?_
  refine bk_eq (cs1 := bk_nf cs j (.inr (12, [.int 0, .ref (E.1 (K + 0)), .int 0, .int 0, .int 0, .int 0, .int 0, .int 0, .int 0, .int 0, .int 0, .long 0, .ref (E.1 (K + 1)), .ref (E.1 (K + 2)), .ref (E.1 (K + 3)), .ref (E.1 (K + 4)), .ref (E.1 (K + 5)), .null, .null, .null, .int 0, .int 0, .null, .null, .null, .int 0, .null, .null, .null, .null, .null, .null, .null, .null, .int 0, .int 0, .null, .int 0, .int 0, .int 0, .int 0, .null, .int 0, .long 0, .null, .null, .null, .int 0, .int 0, .int 0, .null, .int 0])) (bkM6 E K)) rfl ?_
  refine bk_aload_n dX12_init_52 rfl rfl ?_
  refine bk_iconst (v := 4) dX12_init_53 rfl ?_
  refine bn_newi (m := 6) (N := 4) hK bkM6_len rfl (by decide) (by decide) (Nat.le_of_ble_eq_true rfl) (Nat.le_of_ble_eq_true rfl) dX12_init_54 ?_
  refine bk_eq (cs1 := bk_nf cs j _ (bkM7 E K)) rfl ?_
  refine bn_put (k := 17) (x := K + 6) hjl kf_X12_29 (fun _ => ⟨rfl, rfl⟩) (Nat.le_of_ble_eq_true rfl) dX12_init_56 ?_
  refine bk_eq (cs1 := bk_nf cs j (.inr (12, [.int 0, .ref (E.1 (K + 0)), .int 0, .int 0, .int 0, .int 0, .int 0, .int 0, .int 0, .int 0, .int 0, .long 0, .ref (E.1 (K + 1)), .ref (E.1 (K + 2)), .ref (E.1 (K + 3)), .ref (E.1 (K + 4)), .ref (E.1 (K + 5)), .ref (E.1 (K + 6)), .null, .null, .int 0, .int 0, .null, .null, .null, .int 0, .null, .null, .null, .null, .null, .null, .null, .null, .int 0, .int 0, .null, .int 0, .int 0, .int 0, .int 0, .null, .int 0, .long 0, .null, .null, .null, .int 0, .int 0, .int 0, .null, .int 0])) (bkM7 E K)) rfl ?_
  refine bk_aload_n dX12_init_59 rfl rfl ?_
  refine bk_bipush (v := 96) dX12_init_60 rfl ?_
  refine bn_newi (m := 7) (N := 96) hK bkM7_len rfl (by decide) (by decide) (Nat.le_of_ble_eq_true rfl) (Nat.le_of_ble_eq_true rfl) dX12_init_62 ?_
  refine bk_eq (cs1 := bk_nf cs j _ (bkM8 E K)) rfl ?_
  refine bn_put (k := 18) (x := K + 7) hjl kf_X12_32 (fun _ => ⟨rfl, rfl⟩) (Nat.le_of_ble_eq_true rfl) dX12_init_64 ?_
  refine bk_eq (cs1 := bk_nf cs j (.inr (12, [.int 0, .ref (E.1 (K + 0)), .int 0, .int 0, .int 0, .int 0, .int 0, .int 0, .int 0, .int 0, .int 0, .long 0, .ref (E.1 (K + 1)), .ref (E.1 (K + 2)), .ref (E.1 (K + 3)), .ref (E.1 (K + 4)), .ref (E.1 (K + 5)), .ref (E.1 (K + 6)), .ref (E.1 (K + 7)), .null, .int 0, .int 0, .null, .null, .null, .int 0, .null, .null, .null, .null, .null, .null, .null, .null, .int 0, .int 0, .null, .int 0, .int 0, .int 0, .int 0, .null, .int 0, .long 0, .null, .null, .null, .int 0, .int 0, .int 0, .null, .int 0])) (bkM8 E K)) rfl ?_
  refine bk_aload_n dX12_init_67 rfl rfl ?_
  refine bk_bipush (v := 32) dX12_init_68 rfl ?_
  refine bn_newl (m := 8) (N := 32) hK bkM8_len rfl (by decide) (by decide) (Nat.le_of_ble_eq_true rfl) (Nat.le_of_ble_eq_true rfl) dX12_init_70 ?_
  refine bk_eq (cs1 := bk_nf cs j _ (bkM9 E K)) rfl ?_
  refine bn_put (k := 19) (x := K + 8) hjl kf_X12_35 (fun _ => ⟨rfl, rfl⟩) (Nat.le_of_ble_eq_true rfl) dX12_init_72 ?_
  refine bk_eq (cs1 := bk_nf cs j (.inr (12, [.int 0, .ref (E.1 (K + 0)), .int 0, .int 0, .int 0, .int 0, .int 0, .int 0, .int 0, .int 0, .int 0, .long 0, .ref (E.1 (K + 1)), .ref (E.1 (K + 2)), .ref (E.1 (K + 3)), .ref (E.1 (K + 4)), .ref (E.1 (K + 5)), .ref (E.1 (K + 6)), .ref (E.1 (K + 7)), .ref (E.1 (K + 8)), .int 0, .int 0, .null, .null, .null, .int 0, .null, .null, .null, .null, .null, .null, .null, .null, .int 0, .int 0, .null, .int 0, .int 0, .int 0, .int 0, .null, .int 0, .long 0, .null, .null, .null, .int 0, .int 0, .int 0, .null, .int 0])) (bkM9 E K)) rfl ?_
  refine bk_aload_n dX12_init_75 rfl rfl ?_
  refine bk_sipush (v := 240) dX12_init_76 rfl ?_
  refine bn_newi (m := 9) (N := 240) hK bkM9_len rfl (by decide) (by decide) (Nat.le_of_ble_eq_true rfl) (Nat.le_of_ble_eq_true rfl) dX12_init_79 ?_
  refine bk_eq (cs1 := bk_nf cs j _ (bkM10 E K)) rfl ?_
  refine bn_put (k := 22) (x := K + 9) hjl kf_X12_38 (fun _ => ⟨rfl, rfl⟩) (Nat.le_of_ble_eq_true rfl) dX12_init_81 ?_
  refine bk_eq (cs1 := bk_nf cs j (.inr (12, [.int 0, .ref (E.1 (K + 0)), .int 0, .int 0, .int 0, .int 0, .int 0, .int 0, .int 0, .int 0, .int 0, .long 0, .ref (E.1 (K + 1)), .ref (E.1 (K + 2)), .ref (E.1 (K + 3)), .ref (E.1 (K + 4)), .ref (E.1 (K + 5)), .ref (E.1 (K + 6)), .ref (E.1 (K + 7)), .ref (E.1 (K + 8)), .int 0, .int 0, .ref (E.1 (K + 9)), .null, .null, .int 0, .null, .null, .null, .null, .null, .null, .null, .null, .int 0, .int 0, .null, .int 0, .int 0, .int 0, .int 0, .null, .int 0, .long 0, .null, .null, .null, .int 0, .int 0, .int 0, .null, .int 0])) (bkM10 E K)) rfl ?_
  refine bk_aload_n dX12_init_84 rfl rfl ?_
  refine bk_bipush (v := 60) dX12_init_85 rfl ?_
  refine bn_newl (m := 10) (N := 60) hK bkM10_len rfl (by decide) (by decide) (Nat.le_of_ble_eq_true rfl) (Nat.le_of_ble_eq_true rfl) dX12_init_87 ?_
  refine bk_eq (cs1 := bk_nf cs j _ (bkM11 E K)) rfl ?_
  refine bn_put (k := 23) (x := K + 10) hjl kf_X12_41 (fun _ => ⟨rfl, rfl⟩) (Nat.le_of_ble_eq_true rfl) dX12_init_89 ?_
  refine bk_eq (cs1 := bk_nf cs j (.inr (12, [.int 0, .ref (E.1 (K + 0)), .int 0, .int 0, .int 0, .int 0, .int 0, .int 0, .int 0, .int 0, .int 0, .long 0, .ref (E.1 (K + 1)), .ref (E.1 (K + 2)), .ref (E.1 (K + 3)), .ref (E.1 (K + 4)), .ref (E.1 (K + 5)), .ref (E.1 (K + 6)), .ref (E.1 (K + 7)), .ref (E.1 (K + 8)), .int 0, .int 0, .ref (E.1 (K + 9)), .ref (E.1 (K + 10)), .null, .int 0, .null, .null, .null, .null, .null, .null, .null, .null, .int 0, .int 0, .null, .int 0, .int 0, .int 0, .int 0, .null, .int 0, .long 0, .null, .null, .null, .int 0, .int 0, .int 0, .null, .int 0])) (bkM11 E K)) rfl ?_
  refine bk_aload_n dX12_init_92 rfl rfl ?_
  refine bk_iconst (v := 5) dX12_init_93 rfl ?_
  refine bn_newi (m := 11) (N := 5) hK bkM11_len rfl (by decide) (by decide) (Nat.le_of_ble_eq_true rfl) (Nat.le_of_ble_eq_true rfl) dX12_init_94 ?_
  refine bk_eq (cs1 := bk_nf cs j _ (bkM12 E K)) rfl ?_
  refine bn_put (k := 24) (x := K + 11) hjl kf_X12_44 (fun _ => ⟨rfl, rfl⟩) (Nat.le_of_ble_eq_true rfl) dX12_init_96 ?_
  refine bk_eq (cs1 := bk_nf cs j (.inr (12, [.int 0, .ref (E.1 (K + 0)), .int 0, .int 0, .int 0, .int 0, .int 0, .int 0, .int 0, .int 0, .int 0, .long 0, .ref (E.1 (K + 1)), .ref (E.1 (K + 2)), .ref (E.1 (K + 3)), .ref (E.1 (K + 4)), .ref (E.1 (K + 5)), .ref (E.1 (K + 6)), .ref (E.1 (K + 7)), .ref (E.1 (K + 8)), .int 0, .int 0, .ref (E.1 (K + 9)), .ref (E.1 (K + 10)), .ref (E.1 (K + 11)), .int 0, .null, .null, .null, .null, .null, .null, .null, .null, .int 0, .int 0, .null, .int 0, .int 0, .int 0, .int 0, .null, .int 0, .long 0, .null, .null, .null, .int 0, .int 0, .int 0, .null, .int 0])) (bkM12 E K)) rfl ?_
  refine bk_aload_n dX12_init_99 rfl rfl ?_
  refine bk_sipush (v := 236) dX12_init_100 rfl ?_
  refine bn_newl (m := 12) (N := 236) hK bkM12_len rfl (by decide) (by decide) (Nat.le_of_ble_eq_true rfl) (Nat.le_of_ble_eq_true rfl) dX12_init_103 ?_
  refine bk_eq (cs1 := bk_nf cs j _ (bkM13 E K)) rfl ?_
  refine bn_put (k := 26) (x := K + 12) hjl kf_X12_47 (fun _ => ⟨rfl, rfl⟩) (Nat.le_of_ble_eq_true rfl) dX12_init_105 ?_
  refine bk_eq (cs1 := bk_nf cs j (.inr (12, [.int 0, .ref (E.1 (K + 0)), .int 0, .int 0, .int 0, .int 0, .int 0, .int 0, .int 0, .int 0, .int 0, .long 0, .ref (E.1 (K + 1)), .ref (E.1 (K + 2)), .ref (E.1 (K + 3)), .ref (E.1 (K + 4)), .ref (E.1 (K + 5)), .ref (E.1 (K + 6)), .ref (E.1 (K + 7)), .ref (E.1 (K + 8)), .int 0, .int 0, .ref (E.1 (K + 9)), .ref (E.1 (K + 10)), .ref (E.1 (K + 11)), .int 0, .ref (E.1 (K + 12)), .null, .null, .null, .null, .null, .null, .null, .int 0, .int 0, .null, .int 0, .int 0, .int 0, .int 0, .null, .int 0, .long 0, .null, .null, .null, .int 0, .int 0, .int 0, .null, .int 0])) (bkM13 E K)) rfl ?_
  refine bk_aload_n dX12_init_108 rfl rfl ?_
  refine bk_iconst (v := 3) dX12_init_109 rfl ?_
  refine bn_newi (m := 13) (N := 3) hK bkM13_len rfl (by decide) (by decide) (Nat.le_of_ble_eq_true rfl) (Nat.le_of_ble_eq_true rfl) dX12_init_110 ?_
  refine bk_eq (cs1 := bk_nf cs j _ (bkM14 E K)) rfl ?_
  refine bn_put (k := 27) (x := K + 13) hjl kf_X12_50 (fun _ => ⟨rfl, rfl⟩) (Nat.le_of_ble_eq_true rfl) dX12_init_112 ?_
  refine bk_eq (cs1 := bk_nf cs j (.inr (12, [.int 0, .ref (E.1 (K + 0)), .int 0, .int 0, .int 0, .int 0, .int 0, .int 0, .int 0, .int 0, .int 0, .long 0, .ref (E.1 (K + 1)), .ref (E.1 (K + 2)), .ref (E.1 (K + 3)), .ref (E.1 (K + 4)), .ref (E.1 (K + 5)), .ref (E.1 (K + 6)), .ref (E.1 (K + 7)), .ref (E.1 (K + 8)), .int 0, .int 0, .ref (E.1 (K + 9)), .ref (E.1 (K + 10)), .ref (E.1 (K + 11)), .int 0, .ref (E.1 (K + 12)), .ref (E.1 (K + 13)), .null, .null, .null, .null, .null, .null, .int 0, .int 0, .null, .int 0, .int 0, .int 0, .int 0, .null, .int 0, .long 0, .null, .null, .null, .int 0, .int 0, .int 0, .null, .int 0])) (bkM14 E K)) rfl ?_
  refine bk_aload_n dX12_init_115 rfl rfl ?_
  refine bk_bipush (v := 6) dX12_init_116 rfl ?_
  refine bn_newl (m := 14) (N := 6) hK bkM14_len rfl (by decide) (by decide) (Nat.le_of_ble_eq_true rfl) (Nat.le_of_ble_eq_true rfl) dX12_init_118 ?_
  refine bk_eq (cs1 := bk_nf cs j _ (bkM15 E K)) rfl ?_
  refine bn_put (k := 28) (x := K + 14) hjl kf_X12_53 (fun _ => ⟨rfl, rfl⟩) (Nat.le_of_ble_eq_true rfl) dX12_init_120 ?_
  refine bk_eq (cs1 := bk_nf cs j (.inr (12, [.int 0, .ref (E.1 (K + 0)), .int 0, .int 0, .int 0, .int 0, .int 0, .int 0, .int 0, .int 0, .int 0, .long 0, .ref (E.1 (K + 1)), .ref (E.1 (K + 2)), .ref (E.1 (K + 3)), .ref (E.1 (K + 4)), .ref (E.1 (K + 5)), .ref (E.1 (K + 6)), .ref (E.1 (K + 7)), .ref (E.1 (K + 8)), .int 0, .int 0, .ref (E.1 (K + 9)), .ref (E.1 (K + 10)), .ref (E.1 (K + 11)), .int 0, .ref (E.1 (K + 12)), .ref (E.1 (K + 13)), .ref (E.1 (K + 14)), .null, .null, .null, .null, .null, .int 0, .int 0, .null, .int 0, .int 0, .int 0, .int 0, .null, .int 0, .long 0, .null, .null, .null, .int 0, .int 0, .int 0, .null, .int 0])) (bkM15 E K)) rfl ?_
  refine bk_aload_n dX12_init_123 rfl rfl ?_
  refine bk_bipush (v := 6) dX12_init_124 rfl ?_
  refine bn_newi (m := 15) (N := 6) hK bkM15_len rfl (by decide) (by decide) (Nat.le_of_ble_eq_true rfl) (Nat.le_of_ble_eq_true rfl) dX12_init_126 ?_
  refine bk_eq (cs1 := bk_nf cs j _ (bkM16 E K)) rfl ?_
  refine bn_put (k := 29) (x := K + 15) hjl kf_X12_56 (fun _ => ⟨rfl, rfl⟩) (Nat.le_of_ble_eq_true rfl) dX12_init_128 ?_
  refine bk_eq (cs1 := bk_nf cs j (.inr (12, [.int 0, .ref (E.1 (K + 0)), .int 0, .int 0, .int 0, .int 0, .int 0, .int 0, .int 0, .int 0, .int 0, .long 0, .ref (E.1 (K + 1)), .ref (E.1 (K + 2)), .ref (E.1 (K + 3)), .ref (E.1 (K + 4)), .ref (E.1 (K + 5)), .ref (E.1 (K + 6)), .ref (E.1 (K + 7)), .ref (E.1 (K + 8)), .int 0, .int 0, .ref (E.1 (K + 9)), .ref (E.1 (K + 10)), .ref (E.1 (K + 11)), .int 0, .ref (E.1 (K + 12)), .ref (E.1 (K + 13)), .ref (E.1 (K + 14)), .ref (E.1 (K + 15)), .null, .null, .null, .null, .int 0, .int 0, .null, .int 0, .int 0, .int 0, .int 0, .null, .int 0, .long 0, .null, .null, .null, .int 0, .int 0, .int 0, .null, .int 0])) (bkM16 E K)) rfl ?_
  refine bk_aload_n dX12_init_131 rfl rfl ?_
  refine bk_bipush (v := 48) dX12_init_132 rfl ?_
  refine bn_newl (m := 16) (N := 48) hK bkM16_len rfl (by decide) (by decide) (Nat.le_of_ble_eq_true rfl) (Nat.le_of_ble_eq_true rfl) dX12_init_134 ?_
  refine bk_eq (cs1 := bk_nf cs j _ (bkM17 E K)) rfl ?_
  refine bn_put (k := 30) (x := K + 16) hjl kf_X12_59 (fun _ => ⟨rfl, rfl⟩) (Nat.le_of_ble_eq_true rfl) dX12_init_136 ?_
  refine bk_eq (cs1 := bk_nf cs j (.inr (12, [.int 0, .ref (E.1 (K + 0)), .int 0, .int 0, .int 0, .int 0, .int 0, .int 0, .int 0, .int 0, .int 0, .long 0, .ref (E.1 (K + 1)), .ref (E.1 (K + 2)), .ref (E.1 (K + 3)), .ref (E.1 (K + 4)), .ref (E.1 (K + 5)), .ref (E.1 (K + 6)), .ref (E.1 (K + 7)), .ref (E.1 (K + 8)), .int 0, .int 0, .ref (E.1 (K + 9)), .ref (E.1 (K + 10)), .ref (E.1 (K + 11)), .int 0, .ref (E.1 (K + 12)), .ref (E.1 (K + 13)), .ref (E.1 (K + 14)), .ref (E.1 (K + 15)), .ref (E.1 (K + 16)), .null, .null, .null, .int 0, .int 0, .null, .int 0, .int 0, .int 0, .int 0, .null, .int 0, .long 0, .null, .null, .null, .int 0, .int 0, .int 0, .null, .int 0])) (bkM17 E K)) rfl ?_
  refine bk_aload_n dX12_init_139 rfl rfl ?_
  refine bk_iconst (v := 4) dX12_init_140 rfl ?_
  refine bn_newi (m := 17) (N := 4) hK bkM17_len rfl (by decide) (by decide) (Nat.le_of_ble_eq_true rfl) (Nat.le_of_ble_eq_true rfl) dX12_init_141 ?_
  refine bk_eq (cs1 := bk_nf cs j _ (bkM18 E K)) rfl ?_
  refine bn_put (k := 31) (x := K + 17) hjl kf_X12_62 (fun _ => ⟨rfl, rfl⟩) (Nat.le_of_ble_eq_true rfl) dX12_init_143 ?_
  refine bk_eq (cs1 := bk_nf cs j (.inr (12, [.int 0, .ref (E.1 (K + 0)), .int 0, .int 0, .int 0, .int 0, .int 0, .int 0, .int 0, .int 0, .int 0, .long 0, .ref (E.1 (K + 1)), .ref (E.1 (K + 2)), .ref (E.1 (K + 3)), .ref (E.1 (K + 4)), .ref (E.1 (K + 5)), .ref (E.1 (K + 6)), .ref (E.1 (K + 7)), .ref (E.1 (K + 8)), .int 0, .int 0, .ref (E.1 (K + 9)), .ref (E.1 (K + 10)), .ref (E.1 (K + 11)), .int 0, .ref (E.1 (K + 12)), .ref (E.1 (K + 13)), .ref (E.1 (K + 14)), .ref (E.1 (K + 15)), .ref (E.1 (K + 16)), .ref (E.1 (K + 17)), .null, .null, .int 0, .int 0, .null, .int 0, .int 0, .int 0, .int 0, .null, .int 0, .long 0, .null, .null, .null, .int 0, .int 0, .int 0, .null, .int 0])) (bkM18 E K)) rfl ?_
  refine bk_aload_n dX12_init_146 rfl rfl ?_
  refine bk_bipush (v := 96) dX12_init_147 rfl ?_
  refine bn_newi (m := 18) (N := 96) hK bkM18_len rfl (by decide) (by decide) (Nat.le_of_ble_eq_true rfl) (Nat.le_of_ble_eq_true rfl) dX12_init_149 ?_
  refine bk_eq (cs1 := bk_nf cs j _ (bkM19 E K)) rfl ?_
  refine bn_put (k := 32) (x := K + 18) hjl kf_X12_65 (fun _ => ⟨rfl, rfl⟩) (Nat.le_of_ble_eq_true rfl) dX12_init_151 ?_
  refine bk_eq (cs1 := bk_nf cs j (.inr (12, [.int 0, .ref (E.1 (K + 0)), .int 0, .int 0, .int 0, .int 0, .int 0, .int 0, .int 0, .int 0, .int 0, .long 0, .ref (E.1 (K + 1)), .ref (E.1 (K + 2)), .ref (E.1 (K + 3)), .ref (E.1 (K + 4)), .ref (E.1 (K + 5)), .ref (E.1 (K + 6)), .ref (E.1 (K + 7)), .ref (E.1 (K + 8)), .int 0, .int 0, .ref (E.1 (K + 9)), .ref (E.1 (K + 10)), .ref (E.1 (K + 11)), .int 0, .ref (E.1 (K + 12)), .ref (E.1 (K + 13)), .ref (E.1 (K + 14)), .ref (E.1 (K + 15)), .ref (E.1 (K + 16)), .ref (E.1 (K + 17)), .ref (E.1 (K + 18)), .null, .int 0, .int 0, .null, .int 0, .int 0, .int 0, .int 0, .null, .int 0, .long 0, .null, .null, .null, .int 0, .int 0, .int 0, .null, .int 0])) (bkM19 E K)) rfl ?_
  refine bk_aload_n dX12_init_154 rfl rfl ?_
  refine bk_bipush (v := 32) dX12_init_155 rfl ?_
  refine bn_newl (m := 19) (N := 32) hK bkM19_len rfl (by decide) (by decide) (Nat.le_of_ble_eq_true rfl) (Nat.le_of_ble_eq_true rfl) dX12_init_157 ?_
  refine bk_eq (cs1 := bk_nf cs j _ (bkM20 E K)) rfl ?_
  refine bn_put (k := 33) (x := K + 19) hjl kf_X12_68 (fun _ => ⟨rfl, rfl⟩) (Nat.le_of_ble_eq_true rfl) dX12_init_159 ?_
  refine bk_eq (cs1 := bk_nf cs j (.inr (12, [.int 0, .ref (E.1 (K + 0)), .int 0, .int 0, .int 0, .int 0, .int 0, .int 0, .int 0, .int 0, .int 0, .long 0, .ref (E.1 (K + 1)), .ref (E.1 (K + 2)), .ref (E.1 (K + 3)), .ref (E.1 (K + 4)), .ref (E.1 (K + 5)), .ref (E.1 (K + 6)), .ref (E.1 (K + 7)), .ref (E.1 (K + 8)), .int 0, .int 0, .ref (E.1 (K + 9)), .ref (E.1 (K + 10)), .ref (E.1 (K + 11)), .int 0, .ref (E.1 (K + 12)), .ref (E.1 (K + 13)), .ref (E.1 (K + 14)), .ref (E.1 (K + 15)), .ref (E.1 (K + 16)), .ref (E.1 (K + 17)), .ref (E.1 (K + 18)), .ref (E.1 (K + 19)), .int 0, .int 0, .null, .int 0, .int 0, .int 0, .int 0, .null, .int 0, .long 0, .null, .null, .null, .int 0, .int 0, .int 0, .null, .int 0])) (bkM20 E K)) rfl ?_
  refine bk_aload_n dX12_init_162 rfl rfl ?_
  refine bk_sipush (v := 200) dX12_init_163 rfl ?_
  refine bn_newi (m := 20) (N := 200) hK bkM20_len rfl (by decide) (by decide) (Nat.le_of_ble_eq_true rfl) (Nat.le_of_ble_eq_true rfl) dX12_init_166 ?_
  refine bk_eq (cs1 := bk_nf cs j _ (bkM21 E K)) rfl ?_
  refine bn_put (k := 36) (x := K + 20) hjl kf_X12_71 (fun _ => ⟨rfl, rfl⟩) (Nat.le_of_ble_eq_true rfl) dX12_init_168 ?_
  refine bk_eq (cs1 := bk_nf cs j (.inr (12, [.int 0, .ref (E.1 (K + 0)), .int 0, .int 0, .int 0, .int 0, .int 0, .int 0, .int 0, .int 0, .int 0, .long 0, .ref (E.1 (K + 1)), .ref (E.1 (K + 2)), .ref (E.1 (K + 3)), .ref (E.1 (K + 4)), .ref (E.1 (K + 5)), .ref (E.1 (K + 6)), .ref (E.1 (K + 7)), .ref (E.1 (K + 8)), .int 0, .int 0, .ref (E.1 (K + 9)), .ref (E.1 (K + 10)), .ref (E.1 (K + 11)), .int 0, .ref (E.1 (K + 12)), .ref (E.1 (K + 13)), .ref (E.1 (K + 14)), .ref (E.1 (K + 15)), .ref (E.1 (K + 16)), .ref (E.1 (K + 17)), .ref (E.1 (K + 18)), .ref (E.1 (K + 19)), .int 0, .int 0, .ref (E.1 (K + 20)), .int 0, .int 0, .int 0, .int 0, .null, .int 0, .long 0, .null, .null, .null, .int 0, .int 0, .int 0, .null, .int 0])) (bkM21 E K)) rfl ?_
  refine bk_aload_n dX12_init_171 rfl rfl ?_
  refine bk_sipush (v := 9440) dX12_init_172 rfl ?_
  refine bn_newl (m := 21) (N := 9440) hK bkM21_len rfl (by decide) (by decide) (Nat.le_of_ble_eq_true rfl) (Nat.le_of_ble_eq_true rfl) dX12_init_175 ?_
  refine bk_eq (cs1 := bk_nf cs j _ (bkM22 E K)) rfl ?_
  refine bn_put (k := 41) (x := K + 21) hjl kf_X12_74 (fun _ => ⟨rfl, rfl⟩) (Nat.le_of_ble_eq_true rfl) dX12_init_177 ?_
  refine bk_eq (cs1 := bk_nf cs j (.inr (12, [.int 0, .ref (E.1 (K + 0)), .int 0, .int 0, .int 0, .int 0, .int 0, .int 0, .int 0, .int 0, .int 0, .long 0, .ref (E.1 (K + 1)), .ref (E.1 (K + 2)), .ref (E.1 (K + 3)), .ref (E.1 (K + 4)), .ref (E.1 (K + 5)), .ref (E.1 (K + 6)), .ref (E.1 (K + 7)), .ref (E.1 (K + 8)), .int 0, .int 0, .ref (E.1 (K + 9)), .ref (E.1 (K + 10)), .ref (E.1 (K + 11)), .int 0, .ref (E.1 (K + 12)), .ref (E.1 (K + 13)), .ref (E.1 (K + 14)), .ref (E.1 (K + 15)), .ref (E.1 (K + 16)), .ref (E.1 (K + 17)), .ref (E.1 (K + 18)), .ref (E.1 (K + 19)), .int 0, .int 0, .ref (E.1 (K + 20)), .int 0, .int 0, .int 0, .int 0, .ref (E.1 (K + 21)), .int 0, .long 0, .null, .null, .null, .int 0, .int 0, .int 0, .null, .int 0])) (bkM22 E K)) rfl ?_
  refine bk_aload_n dX12_init_180 rfl rfl ?_
  refine bk_bipush (v := 55) dX12_init_181 rfl ?_
  refine bn_newl (m := 22) (N := 55) hK bkM22_len rfl (by decide) (by decide) (Nat.le_of_ble_eq_true rfl) (Nat.le_of_ble_eq_true rfl) dX12_init_183 ?_
  refine bk_eq (cs1 := bk_nf cs j _ (bkM23 E K)) rfl ?_
  refine bn_put (k := 44) (x := K + 22) hjl kf_X12_77 (fun _ => ⟨rfl, rfl⟩) (Nat.le_of_ble_eq_true rfl) dX12_init_185 ?_
  refine bk_eq (cs1 := bk_nf cs j (.inr (12, [.int 0, .ref (E.1 (K + 0)), .int 0, .int 0, .int 0, .int 0, .int 0, .int 0, .int 0, .int 0, .int 0, .long 0, .ref (E.1 (K + 1)), .ref (E.1 (K + 2)), .ref (E.1 (K + 3)), .ref (E.1 (K + 4)), .ref (E.1 (K + 5)), .ref (E.1 (K + 6)), .ref (E.1 (K + 7)), .ref (E.1 (K + 8)), .int 0, .int 0, .ref (E.1 (K + 9)), .ref (E.1 (K + 10)), .ref (E.1 (K + 11)), .int 0, .ref (E.1 (K + 12)), .ref (E.1 (K + 13)), .ref (E.1 (K + 14)), .ref (E.1 (K + 15)), .ref (E.1 (K + 16)), .ref (E.1 (K + 17)), .ref (E.1 (K + 18)), .ref (E.1 (K + 19)), .int 0, .int 0, .ref (E.1 (K + 20)), .int 0, .int 0, .int 0, .int 0, .ref (E.1 (K + 21)), .int 0, .long 0, .ref (E.1 (K + 22)), .null, .null, .int 0, .int 0, .int 0, .null, .int 0])) (bkM23 E K)) rfl ?_
  refine bk_aload_n dX12_init_188 rfl rfl ?_
  refine bk_iconst (v := 3) dX12_init_189 rfl ?_
  refine bn_newi (m := 23) (N := 3) hK bkM23_len rfl (by decide) (by decide) (Nat.le_of_ble_eq_true rfl) (Nat.le_of_ble_eq_true rfl) dX12_init_190 ?_
  refine bk_eq (cs1 := bk_nf cs j _ (bkM24 E K)) rfl ?_
  refine bn_put (k := 45) (x := K + 23) hjl kf_X12_80 (fun _ => ⟨rfl, rfl⟩) (Nat.le_of_ble_eq_true rfl) dX12_init_192 ?_
  refine bk_eq (cs1 := bk_nf cs j (.inr (12, [.int 0, .ref (E.1 (K + 0)), .int 0, .int 0, .int 0, .int 0, .int 0, .int 0, .int 0, .int 0, .int 0, .long 0, .ref (E.1 (K + 1)), .ref (E.1 (K + 2)), .ref (E.1 (K + 3)), .ref (E.1 (K + 4)), .ref (E.1 (K + 5)), .ref (E.1 (K + 6)), .ref (E.1 (K + 7)), .ref (E.1 (K + 8)), .int 0, .int 0, .ref (E.1 (K + 9)), .ref (E.1 (K + 10)), .ref (E.1 (K + 11)), .int 0, .ref (E.1 (K + 12)), .ref (E.1 (K + 13)), .ref (E.1 (K + 14)), .ref (E.1 (K + 15)), .ref (E.1 (K + 16)), .ref (E.1 (K + 17)), .ref (E.1 (K + 18)), .ref (E.1 (K + 19)), .int 0, .int 0, .ref (E.1 (K + 20)), .int 0, .int 0, .int 0, .int 0, .ref (E.1 (K + 21)), .int 0, .long 0, .ref (E.1 (K + 22)), .ref (E.1 (K + 23)), .null, .int 0, .int 0, .int 0, .null, .int 0])) (bkM24 E K)) rfl ?_
  refine bk_aload_n dX12_init_195 rfl rfl ?_
  refine bk_iconst (v := 3) dX12_init_196 rfl ?_
  refine bn_newi (m := 24) (N := 3) hK bkM24_len rfl (by decide) (by decide) (Nat.le_of_ble_eq_true rfl) (Nat.le_of_ble_eq_true rfl) dX12_init_197 ?_
  refine bk_eq (cs1 := bk_nf cs j _ (bkM25 E K)) rfl ?_
  refine bn_put (k := 46) (x := K + 24) hjl kf_X12_83 (fun _ => ⟨rfl, rfl⟩) (Nat.le_of_ble_eq_true rfl) dX12_init_199 ?_
  refine bk_eq (cs1 := bk_nf cs j (.inr (12, [.int 0, .ref (E.1 (K + 0)), .int 0, .int 0, .int 0, .int 0, .int 0, .int 0, .int 0, .int 0, .int 0, .long 0, .ref (E.1 (K + 1)), .ref (E.1 (K + 2)), .ref (E.1 (K + 3)), .ref (E.1 (K + 4)), .ref (E.1 (K + 5)), .ref (E.1 (K + 6)), .ref (E.1 (K + 7)), .ref (E.1 (K + 8)), .int 0, .int 0, .ref (E.1 (K + 9)), .ref (E.1 (K + 10)), .ref (E.1 (K + 11)), .int 0, .ref (E.1 (K + 12)), .ref (E.1 (K + 13)), .ref (E.1 (K + 14)), .ref (E.1 (K + 15)), .ref (E.1 (K + 16)), .ref (E.1 (K + 17)), .ref (E.1 (K + 18)), .ref (E.1 (K + 19)), .int 0, .int 0, .ref (E.1 (K + 20)), .int 0, .int 0, .int 0, .int 0, .ref (E.1 (K + 21)), .int 0, .long 0, .ref (E.1 (K + 22)), .ref (E.1 (K + 23)), .ref (E.1 (K + 24)), .int 0, .int 0, .int 0, .null, .int 0])) (bkM25 E K)) rfl ?_
  refine bk_aload_n dX12_init_202 rfl rfl ?_
  refine bk_sipush (v := 236) dX12_init_203 rfl ?_
  refine bn_newl (m := 25) (N := 236) hK bkM25_len rfl (by decide) (by decide) (Nat.le_of_ble_eq_true rfl) (Nat.le_of_ble_eq_true rfl) dX12_init_206 ?_
  refine bk_eq (cs1 := bk_nf cs j _ (bkM26 E K)) rfl ?_
  refine bn_put (k := 50) (x := K + 25) hjl kf_X12_86 (fun _ => ⟨rfl, rfl⟩) (Nat.le_of_ble_eq_true rfl) dX12_init_208 ?_
  refine bk_eq (cs1 := bk_nf cs j (.inr (12, [.int 0, .ref (E.1 (K + 0)), .int 0, .int 0, .int 0, .int 0, .int 0, .int 0, .int 0, .int 0, .int 0, .long 0, .ref (E.1 (K + 1)), .ref (E.1 (K + 2)), .ref (E.1 (K + 3)), .ref (E.1 (K + 4)), .ref (E.1 (K + 5)), .ref (E.1 (K + 6)), .ref (E.1 (K + 7)), .ref (E.1 (K + 8)), .int 0, .int 0, .ref (E.1 (K + 9)), .ref (E.1 (K + 10)), .ref (E.1 (K + 11)), .int 0, .ref (E.1 (K + 12)), .ref (E.1 (K + 13)), .ref (E.1 (K + 14)), .ref (E.1 (K + 15)), .ref (E.1 (K + 16)), .ref (E.1 (K + 17)), .ref (E.1 (K + 18)), .ref (E.1 (K + 19)), .int 0, .int 0, .ref (E.1 (K + 20)), .int 0, .int 0, .int 0, .int 0, .ref (E.1 (K + 21)), .int 0, .long 0, .ref (E.1 (K + 22)), .ref (E.1 (K + 23)), .ref (E.1 (K + 24)), .int 0, .int 0, .int 0, .ref (E.1 (K + 25)), .int 0])) (bkM26 E K)) rfl ?_
  exact bk_ret rfl rfl rfl rfl dX12_init_211
