/-! the class's constructor -/
theorem hfsX9 : ∀ j, j < 2 → defaultValue (tyX9 j) = vp_V [.null, .int 0] j := fun j hj => match j, hj with
  | 0, _ => rfl
  | 1, _ => rfl
  | n + 2, h => absurd h (by omega)
theorem ki_BentWords_11 : bk_ci "BentWords" 11 0 mX9_init := ⟨bw_mem1 35 (by decide +kernel) rfl, bw_mem1 36 (by decide +kernel) rfl, bw_mem1 2 (by decide +kernel) rfl, bw_mem1 37 (by decide +kernel) rfl, ⟨by decide, by decide, by decide +kernel⟩, by decide, rfl, rfl⟩
theorem kf_X11_12 : bk_fp "BentWords" 12 11 19 0 (tyX11 0) := ⟨RX11, TX11, tyX11, tyX11_ok, nmX11, in_X11, rfl, by decide, bw_mem2 90 (by decide +kernel) rfl, rfl, rfl, tyX11_ok 0 (by decide)⟩
theorem hfsX0 : ∀ j, j < 6 → defaultValue (tyX0 j) = vp_V [.null, .int 0, .int 0, .int 0, .int 0, .long 0] j := fun j hj => match j, hj with
  | 0, _ => rfl
  | 1, _ => rfl
  | 2, _ => rfl
  | 3, _ => rfl
  | 4, _ => rfl
  | 5, _ => rfl
  | n + 6, h => absurd h (by omega)
theorem ki_BentWords_18 : bk_ci "BentWords" 18 1 mX0_init := ⟨bw_mem1 54 (by decide +kernel) rfl, bw_mem1 55 (by decide +kernel) rfl, bw_mem1 3 (by decide +kernel) rfl, bw_mem1 56 (by decide +kernel) rfl, ⟨by decide, by decide, by decide +kernel⟩, by decide, rfl, rfl⟩
theorem kf_X11_21 : bk_fp "BentWords" 21 11 19 1 (tyX11 1) := ⟨RX11, TX11, tyX11, tyX11_ok, nmX11, in_X11, rfl, by decide, bw_mem2 91 (by decide +kernel) rfl, rfl, rfl, tyX11_ok 1 (by decide)⟩
theorem hfsX4 : ∀ j, j < 2 → defaultValue (tyX4 j) = vp_V [.null, .null] j := fun j hj => match j, hj with
  | 0, _ => rfl
  | 1, _ => rfl
  | n + 2, h => absurd h (by omega)
theorem ki_BentWords_27 : bk_ci "BentWords" 27 1 mX4_init := ⟨bw_mem1 89 (by decide +kernel) rfl, bw_mem1 90 (by decide +kernel) rfl, bw_mem1 4 (by decide +kernel) rfl, bw_mem1 91 (by decide +kernel) rfl, ⟨by decide, by decide, by decide +kernel⟩, by decide, rfl, rfl⟩
theorem kf_X11_30 : bk_fp "BentWords" 30 11 19 2 (tyX11 2) := ⟨RX11, TX11, tyX11, tyX11_ok, nmX11, in_X11, rfl, by decide, bw_mem2 92 (by decide +kernel) rfl, rfl, rfl, tyX11_ok 2 (by decide)⟩
theorem hfsX6 : ∀ j, j < 1 → defaultValue (tyX6 j) = vp_V [.null] j := fun j hj => match j, hj with
  | 0, _ => rfl
  | n + 1, h => absurd h (by omega)
theorem ki_BentWords_36 : bk_ci "BentWords" 36 1 mX6_init := ⟨bw_mem1 184 (by decide +kernel) rfl, bw_mem1 185 (by decide +kernel) rfl, bw_mem1 6 (by decide +kernel) rfl, bw_mem1 186 (by decide +kernel) rfl, ⟨by decide, by decide, by decide +kernel⟩, by decide, rfl, rfl⟩
theorem kf_X11_37 : bk_fp "BentWords" 37 11 19 3 (tyX11 3) := ⟨RX11, TX11, tyX11, tyX11_ok, nmX11, in_X11, rfl, by decide, bw_mem2 93 (by decide +kernel) rfl, rfl, rfl, tyX11_ok 3 (by decide)⟩
theorem ki_BentWords_43 : bk_ci "BentWords" 43 0 mX3_init := ⟨bw_mem1 193 (by decide +kernel) rfl, bw_mem1 96 (by decide +kernel) rfl, bw_mem1 5 (by decide +kernel) rfl, bw_mem1 97 (by decide +kernel) rfl, ⟨by decide, by decide, by decide +kernel⟩, by decide, rfl, rfl⟩
theorem kf_X11_44 : bk_fp "BentWords" 44 11 19 4 (tyX11 4) := ⟨RX11, TX11, tyX11, tyX11_ok, nmX11, in_X11, rfl, by decide, bw_mem2 94 (by decide +kernel) rfl, rfl, rfl, tyX11_ok 4 (by decide)⟩
theorem kf_X11_50 : bk_fp "BentWords" 50 11 19 6 (tyX11 6) := ⟨RX11, TX11, tyX11, tyX11_ok, nmX11, in_X11, rfl, by decide, bw_mem2 96 (by decide +kernel) rfl, rfl, rfl, tyX11_ok 6 (by decide)⟩
theorem hfsX5 : ∀ j, j < 2 → defaultValue (tyX5 j) = vp_V [.int 0, .null] j := fun j hj => match j, hj with
  | 0, _ => rfl
  | 1, _ => rfl
  | n + 2, h => absurd h (by omega)
theorem ki_BentWords_54 : bk_ci "BentWords" 54 0 mX5_init := ⟨bw_mem1 197 (by decide +kernel) rfl, bw_mem1 198 (by decide +kernel) rfl, bw_mem1 7 (by decide +kernel) rfl, bw_mem1 199 (by decide +kernel) rfl, ⟨by decide, by decide, by decide +kernel⟩, by decide, rfl, rfl⟩
theorem hfsX7 : ∀ j, j < 1 → defaultValue (tyX7 j) = vp_V [.null] j := fun j hj => match j, hj with
  | 0, _ => rfl
  | n + 1, h => absurd h (by omega)
theorem ki_BentWords_57 : bk_ci "BentWords" 57 0 mX7_init := ⟨bw_mem2 11 (by decide +kernel) rfl, bw_mem2 12 (by decide +kernel) rfl, bw_mem1 9 (by decide +kernel) rfl, bw_mem2 13 (by decide +kernel) rfl, ⟨by decide, by decide, by decide +kernel⟩, by decide, rfl, rfl⟩
theorem kf_X11_58 : bk_fp "BentWords" 58 11 19 8 (tyX11 8) := ⟨RX11, TX11, tyX11, tyX11_ok, nmX11, in_X11, rfl, by decide, bw_mem2 98 (by decide +kernel) rfl, rfl, rfl, tyX11_ok 8 (by decide)⟩
theorem kf_X11_62 : bk_fp "BentWords" 62 11 19 9 (tyX11 9) := ⟨RX11, TX11, tyX11, tyX11_ok, nmX11, in_X11, rfl, by decide, bw_mem2 99 (by decide +kernel) rfl, rfl, rfl, tyX11_ok 9 (by decide)⟩
theorem hfsX10 : ∀ j, j < 7 → defaultValue (tyX10 j) = vp_V [.null, .null, .null, .int 0, .int 0, .int 0, .int 0] j := fun j hj => match j, hj with
  | 0, _ => rfl
  | 1, _ => rfl
  | 2, _ => rfl
  | 3, _ => rfl
  | 4, _ => rfl
  | 5, _ => rfl
  | 6, _ => rfl
  | n + 7, h => absurd h (by omega)
theorem ki_BentWords_67 : bk_ci "BentWords" 67 2 mX10_init := ⟨bw_mem2 24 (by decide +kernel) rfl, bw_mem2 25 (by decide +kernel) rfl, bw_mem1 10 (by decide +kernel) rfl, bw_mem2 26 (by decide +kernel) rfl, ⟨by decide, by decide, by decide +kernel⟩, by decide, rfl, rfl⟩
theorem kf_X11_70 : bk_fp "BentWords" 70 11 19 10 (tyX11 10) := ⟨RX11, TX11, tyX11, tyX11_ok, nmX11, in_X11, rfl, by decide, bw_mem2 100 (by decide +kernel) rfl, rfl, rfl, tyX11_ok 10 (by decide)⟩
theorem hfsX2 : ∀ j, j < 5 → defaultValue (tyX2 j) = vp_V [.null, .int 0, .null, .null, .int 0] j := fun j hj => match j, hj with
  | 0, _ => rfl
  | 1, _ => rfl
  | 2, _ => rfl
  | 3, _ => rfl
  | 4, _ => rfl
  | n + 5, h => absurd h (by omega)
theorem ki_BentWords_76 : bk_ci "BentWords" 76 0 mX2_init := ⟨bw_mem2 56 (by decide +kernel) rfl, bw_mem2 57 (by decide +kernel) rfl, bw_mem1 11 (by decide +kernel) rfl, bw_mem2 58 (by decide +kernel) rfl, ⟨by decide, by decide, by decide +kernel⟩, by decide, rfl, rfl⟩
theorem kf_X11_77 : bk_fp "BentWords" 77 11 19 11 (tyX11 11) := ⟨RX11, TX11, tyX11, tyX11_ok, nmX11, in_X11, rfl, by decide, bw_mem2 101 (by decide +kernel) rfl, rfl, rfl, tyX11_ok 11 (by decide)⟩
theorem kf_X11_81 : bk_fp "BentWords" 81 11 19 12 (tyX11 12) := ⟨RX11, TX11, tyX11, tyX11_ok, nmX11, in_X11, rfl, by decide, bw_mem2 102 (by decide +kernel) rfl, rfl, rfl, tyX11_ok 12 (by decide)⟩
theorem kf_X11_84 : bk_fp "BentWords" 84 11 19 13 (tyX11 13) := ⟨RX11, TX11, tyX11, tyX11_ok, nmX11, in_X11, rfl, by decide, bw_mem2 103 (by decide +kernel) rfl, rfl, rfl, tyX11_ok 13 (by decide)⟩
theorem kf_X11_87 : bk_fp "BentWords" 87 11 19 15 (tyX11 15) := ⟨RX11, TX11, tyX11, tyX11_ok, nmX11, in_X11, rfl, by decide, bw_mem2 105 (by decide +kernel) rfl, rfl, rfl, tyX11_ok 15 (by decide)⟩
theorem hfsX1 : ∀ j, j < 1 → defaultValue (tyX1 j) = vp_V [.long 0] j := fun j hj => match j, hj with
  | 0, _ => rfl
  | n + 1, h => absurd h (by omega)
theorem ki_BentWords_93 : bk_cn "BentWords" 93 0 mX1_init "BentWords" := ⟨by decide, bw_mem2 80 (by decide +kernel) rfl, bw_mem1 12 (by decide +kernel) rfl, bw_mem2 81 (by decide +kernel) rfl, ⟨by decide, by decide, by decide +kernel⟩, by decide, rfl, rfl⟩
theorem kf_X11_94 : bk_fp "BentWords" 94 11 19 16 (tyX11 16) := ⟨RX11, TX11, tyX11, tyX11_ok, nmX11, in_X11, rfl, by decide, bw_mem2 106 (by decide +kernel) rfl, rfl, rfl, tyX11_ok 16 (by decide)⟩
theorem ki_BentWords_100 : bk_cn "BentWords" 100 0 mX8_init "BentWords" := ⟨by decide, bw_mem1 205 (by decide +kernel) rfl, bw_mem1 8 (by decide +kernel) rfl, bw_mem1 206 (by decide +kernel) rfl, ⟨by decide, by decide, by decide +kernel⟩, by decide, rfl, rfl⟩
theorem kf_X11_101 : bk_fp "BentWords" 101 11 19 17 (tyX11 17) := ⟨RX11, TX11, tyX11, tyX11_ok, nmX11, in_X11, rfl, by decide, bw_mem2 107 (by decide +kernel) rfl, rfl, rfl, tyX11_ok 17 (by decide)⟩
theorem bk_last {Y : List va_E} {m : Nat} {o : va_E} (h : Y.length = m) : (Y ++ [o])[m]? = some o := by rw [List.getElem?_append_right (by omega), h, Nat.sub_self]; rfl
theorem bk_len1 {Y : List va_E} {m : Nat} {o : va_E} (h : Y.length = m) : (Y ++ [o]).length = m + 1 := by rw [List.length_append, h]; rfl
theorem bk_lastset {Y Y' : List va_E} {m : Nat} {o x : va_E} (h : Y.length = m) : (Y ++ [o]).set m x ++ Y' = Y ++ (x :: Y') := by
  rw [List.set_append_right _ _ (by omega), h, Nat.sub_self, List.append_assoc]; rfl
def bkB0 (_ : bw_E) (_ : Nat) : List va_E := []
theorem bkB0_len {E : bw_E} {K : Nat} : (bkB0 E K).length = 0 := rfl
def bkB1 (E : bw_E) (K : Nat) : List va_E := bkB0 E K ++ (.inr (9, [.ref (E.1 ((K + 1) + 0)), .int 0]) :: [.inl (E.2.2.2 2, 480, .inl (fun _ => 0))])
theorem bkB1_len {E : bw_E} {K : Nat} : (bkB1 E K).length = 2 := by unfold bkB1; rw [List.length_append, bkB0_len]; rfl
def bkB2 (E : bw_E) (K : Nat) : List va_E := bkB1 E K ++ (.inr (0, [.ref (E.1 (K + 0)), .int 0, .int 0, .int 0, .int 0, .long 0]) :: [])
theorem bkB2_len {E : bw_E} {K : Nat} : (bkB2 E K).length = 3 := by unfold bkB2; rw [List.length_append, bkB1_len]; rfl
def bkB3 (E : bw_E) (K : Nat) : List va_E := bkB2 E K ++ (.inr (4, [.ref (E.1 (K + 2)), .ref (E.1 ((K + 4) + 0))]) :: [.inr (3, [.int 0, .ref (E.1 ((K + 4) + 1)), .ref (E.1 ((K + 4) + 2)), .ref (E.1 ((K + 4) + 3)), .ref (E.1 ((K + 4) + 4)), .ref (E.1 ((K + 4) + 5)), .int 0, .ref (E.1 ((K + 4) + 6)), .ref (E.1 ((K + 4) + 7)), .ref (E.1 ((K + 4) + 8)), .ref (E.1 ((K + 4) + 9)), .ref (E.1 ((K + 4) + 10)), .ref (E.1 ((K + 4) + 11))]), .inl (E.2.2.2 1, 6, .inr (.inl (fun _ => 0))), .inl (E.2.2.2 0, 6, .inl (fun _ => 0)), .inl (E.2.2.2 1, 48, .inr (.inl (fun _ => 0))), .inl (E.2.2.2 1, 24, .inr (.inl (fun _ => 0))), .inl (E.2.2.2 1, 24, .inr (.inl (fun _ => 0))), .inl (E.2.2.2 1, 4, .inr (.inl (fun _ => 0))), .inl (E.2.2.2 0, 4, .inl (fun _ => 0)), .inl (E.2.2.2 2, 32, .inl (fun _ => 0)), .inl (E.2.2.2 0, 32, .inl (fun _ => 0)), .inl (E.2.2.2 0, 32, .inl (fun _ => 0)), .inl (E.2.2.2 1, 32, .inr (.inl (fun _ => 0)))])
theorem bkB3_len {E : bw_E} {K : Nat} : (bkB3 E K).length = 16 := by unfold bkB3; rw [List.length_append, bkB2_len]; rfl
def bkB4 (E : bw_E) (K : Nat) : List va_E := bkB3 E K ++ (.inr (6, [.ref (E.1 (K + 2))]) :: [])
theorem bkB4_len {E : bw_E} {K : Nat} : (bkB4 E K).length = 17 := by unfold bkB4; rw [List.length_append, bkB3_len]; rfl
def bkB5 (E : bw_E) (K : Nat) : List va_E := bkB4 E K ++ (.inr (3, [.int 0, .ref (E.1 ((K + 18) + 0)), .ref (E.1 ((K + 18) + 1)), .ref (E.1 ((K + 18) + 2)), .ref (E.1 ((K + 18) + 3)), .ref (E.1 ((K + 18) + 4)), .int 0, .ref (E.1 ((K + 18) + 5)), .ref (E.1 ((K + 18) + 6)), .ref (E.1 ((K + 18) + 7)), .ref (E.1 ((K + 18) + 8)), .ref (E.1 ((K + 18) + 9)), .ref (E.1 ((K + 18) + 10))]) :: [.inl (E.2.2.2 1, 6, .inr (.inl (fun _ => 0))), .inl (E.2.2.2 0, 6, .inl (fun _ => 0)), .inl (E.2.2.2 1, 48, .inr (.inl (fun _ => 0))), .inl (E.2.2.2 1, 24, .inr (.inl (fun _ => 0))), .inl (E.2.2.2 1, 24, .inr (.inl (fun _ => 0))), .inl (E.2.2.2 1, 4, .inr (.inl (fun _ => 0))), .inl (E.2.2.2 0, 4, .inl (fun _ => 0)), .inl (E.2.2.2 2, 32, .inl (fun _ => 0)), .inl (E.2.2.2 0, 32, .inl (fun _ => 0)), .inl (E.2.2.2 0, 32, .inl (fun _ => 0)), .inl (E.2.2.2 1, 32, .inr (.inl (fun _ => 0)))])
theorem bkB5_len {E : bw_E} {K : Nat} : (bkB5 E K).length = 29 := by unfold bkB5; rw [List.length_append, bkB4_len]; rfl
/-- the first n of the scripts -/
def bk_rg (E : bw_E) (K n : Nat) : Nat → Option Nat := fun q => if q < n then some (E.1 (K + (30 + 14 * q))) else none
theorem bk_rg_up {E : bw_E} {K n : Nat} : va_up (bk_rg E K n) n (some (E.1 (K + (30 + 14 * n)))) = bk_rg E K (n + 1) := by
  funext q
  unfold bk_rg va_up
  by_cases h : q = n
  · rw [if_pos h, if_pos (by omega), h]
  · rw [if_neg h]
    dsimp only
    by_cases h2 : q < n
    · rw [if_pos h2, if_pos (by omega)]
    · rw [if_neg h2, if_neg (by omega)]
def bk_SS (E : bw_E) (K : Nat) : Nat → List va_E
  | 0 => []
  | i + 1 => bk_SS E K i ++ (.inr (5, [.int 0, .ref (E.1 (K + (30 + 14 * i + 1) + 0))]) :: bk_sY E (K + (30 + 14 * i + 1)) 12)
theorem bk_sY_len {E : bw_E} {K : Nat} : (bk_sY E K 12).length = 13 := rfl
theorem bk_SS_len {E : bw_E} {K : Nat} : ∀ i, (bk_SS E K i).length = 14 * i
  | 0 => rfl
  | i + 1 => by rw [bk_SS, List.length_append, bk_SS_len i, List.length_cons, bk_sY_len]; omega
def bkL (E : bw_E) (K i : Nat) : List va_E := bkB5 E K ++ (.inl (E.2.2.2 3, 5, .inr (.inr (.inr (.inr (bk_rg E K i))))) :: bk_SS E K i)
theorem bkL_len {E : bw_E} {K i : Nat} : (bkL E K i).length = 30 + 14 * i := by unfold bkL; rw [List.length_append, bkB5_len, List.length_cons, bk_SS_len]; omega
theorem bk_29 {E : bw_E} {K : Nat} {a : va_E} {S : List va_E} : (bkB5 E K ++ (a :: S))[29]? = some a := by
  rw [List.getElem?_append_right (by rw [bkB5_len]; omega), bkB5_len]; rfl
theorem bk_30 {E : bw_E} {K i : Nat} {a x : va_E} {Z : List va_E} : (bkB5 E K ++ (a :: (bk_SS E K i ++ (x :: Z))))[30 + 14 * i]? = some x := by
  rw [List.getElem?_append_right (by rw [bkB5_len]; omega), bkB5_len, show 30 + 14 * i - 29 = 14 * i + 1 by omega, List.getElem?_cons_succ, List.getElem?_append_right (by rw [bk_SS_len]; omega), bk_SS_len, Nat.sub_self]; rfl
theorem bk_set29 {E : bw_E} {K : Nat} {a b : va_E} {S : List va_E} : (bkB5 E K ++ (a :: S)).set 29 b = bkB5 E K ++ (b :: S) := by
  rw [List.set_append_right _ _ (by rw [bkB5_len]; omega), bkB5_len]; rfl
def bkB6 (E : bw_E) (K : Nat) : List va_E := bkL E K 5
theorem bkB6_len {E : bw_E} {K : Nat} : (bkB6 E K).length = 100 := bkL_len
def bkB7 (E : bw_E) (K : Nat) : List va_E := bkB6 E K ++ (.inr (7, [.ref (E.1 ((K + 101) + 0))]) :: [.inl (E.2.2.2 1, 52, .inr (.inl (fun _ => 0)))])
theorem bkB7_len {E : bw_E} {K : Nat} : (bkB7 E K).length = 102 := by unfold bkB7; rw [List.length_append, bkB6_len]; rfl
def bkB8 (E : bw_E) (K : Nat) : List va_E := bkB7 E K ++ (.inr (7, [.ref (E.1 ((K + 103) + 0))]) :: [.inl (E.2.2.2 1, 52, .inr (.inl (fun _ => 0)))])
theorem bkB8_len {E : bw_E} {K : Nat} : (bkB8 E K).length = 104 := by unfold bkB8; rw [List.length_append, bkB7_len]; rfl
def bkB9 (E : bw_E) (K : Nat) : List va_E := bkB8 E K ++ (.inr (10, [.ref (E.1 (K + 17)), .ref (E.1 (K + 100)), .ref (E.1 ((K + 105) + 0)), .int 0, .int 0, .int 0, .int 0]) :: [.inl (E.2.2.2 2, 144, .inl (fun _ => 0))])
theorem bkB9_len {E : bw_E} {K : Nat} : (bkB9 E K).length = 106 := by unfold bkB9; rw [List.length_append, bkB8_len]; rfl
def bkB10 (E : bw_E) (K : Nat) : List va_E := bkB9 E K ++ (.inr (2, [.ref (E.1 ((K + 107) + 0)), .int 0, .ref (E.1 ((K + 107) + 1)), .ref (E.1 ((K + 107) + 2)), .int 0]) :: [.inl (E.2.2.2 0, 100, .inl (fun _ => 0)), .inl (E.2.2.2 0, 40, .inl (fun _ => 0)), .inl (E.2.2.2 1, 40, .inr (.inl (fun _ => 0)))])
theorem bkB10_len {E : bw_E} {K : Nat} : (bkB10 E K).length = 110 := by unfold bkB10; rw [List.length_append, bkB9_len]; rfl
def bkB11 (E : bw_E) (K : Nat) : List va_E := bkB10 E K ++ (.inr (7, [.ref (E.1 ((K + 111) + 0))]) :: [.inl (E.2.2.2 1, 52, .inr (.inl (fun _ => 0)))])
theorem bkB11_len {E : bw_E} {K : Nat} : (bkB11 E K).length = 112 := by unfold bkB11; rw [List.length_append, bkB10_len]; rfl
def bkB12 (E : bw_E) (K : Nat) : List va_E := bkB11 E K ++ (.inr (2, [.ref (E.1 ((K + 113) + 0)), .int 0, .ref (E.1 ((K + 113) + 1)), .ref (E.1 ((K + 113) + 2)), .int 0]) :: [.inl (E.2.2.2 0, 100, .inl (fun _ => 0)), .inl (E.2.2.2 0, 40, .inl (fun _ => 0)), .inl (E.2.2.2 1, 40, .inr (.inl (fun _ => 0)))])
theorem bkB12_len {E : bw_E} {K : Nat} : (bkB12 E K).length = 116 := by unfold bkB12; rw [List.length_append, bkB11_len]; rfl
def bkB13 (E : bw_E) (K : Nat) : List va_E := bkB12 E K ++ [.inl (E.2.2.2 0, 3, .inl (fun _ => 0))]
theorem bkB13_len {E : bw_E} {K : Nat} : (bkB13 E K).length = 117 := by unfold bkB13; rw [List.length_append, bkB12_len]; rfl
def bkB14 (E : bw_E) (K : Nat) : List va_E := bkB13 E K ++ [.inr (1, [.long 0])]
theorem bkB14_len {E : bw_E} {K : Nat} : (bkB14 E K).length = 118 := by unfold bkB14; rw [List.length_append, bkB13_len]; rfl
def bkB15 (E : bw_E) (K : Nat) : List va_E := bkB14 E K ++ [.inr (8, [.int 0, .int 0, .int 0, .int 0, .long 0])]
theorem bkB15_len {E : bw_E} {K : Nat} : (bkB15 E K).length = 119 := by unfold bkB15; rw [List.length_append, bkB14_len]; rfl
set_option maxRecDepth 20000 in
theorem kX11 {E : bw_E} {cs : List va_E} {j K : Nat} (hj : cs[j]? = some (.inr (11, [.null, .null, .null, .null, .null, .int 0, .null, .int 0, .null, .null, .null, .null, .null, .null, .int 0, .null, .null, .null, .int 0]))) (hK : cs.length = K) : bk_run E 3 mX11_init [.ref j] cs (bk_nf cs j (.inr (11, [.ref (E.1 (K + 0)), .ref (E.1 (K + 2)), .ref (E.1 (K + 3)), .ref (E.1 (K + 16)), .ref (E.1 (K + 17)), .int 0, .ref (E.1 (K + 29)), .int 0, .ref (E.1 (K + 100)), .ref (E.1 (K + 102)), .ref (E.1 (K + 104)), .ref (E.1 (K + 106)), .ref (E.1 (K + 110)), .ref (E.1 (K + 112)), .int 0, .ref (E.1 (K + 116)), .ref (E.1 (K + 117)), .ref (E.1 (K + 118)), .int 0])) (bkB15 E K)) 119 2069 := by
  have hjl := (List.getElem?_eq_some_iff.mp hj).1
  have key : ∀ n i, i + n = 5 → bk_G E { frames := 3, cells := 119, slots := 2069, locals := 40 * 3 } mX11_init 109 [some (.ref j), some (.int (nI 5))] [] (bk_nf cs j (.inr (11, [.ref (E.1 (K + 0)), .ref (E.1 (K + 2)), .ref (E.1 (K + 3)), .ref (E.1 (K + 16)), .ref (E.1 (K + 17)), .int 0, .ref (E.1 (K + 29)), .int 0, .null, .null, .null, .null, .null, .null, .int 0, .null, .null, .null, .int 0])) (bkL E K 5)) 100 1380 119 2069 (bk_nf cs j (.inr (11, [.ref (E.1 (K + 0)), .ref (E.1 (K + 2)), .ref (E.1 (K + 3)), .ref (E.1 (K + 16)), .ref (E.1 (K + 17)), .int 0, .ref (E.1 (K + 29)), .int 0, .ref (E.1 (K + 100)), .ref (E.1 (K + 102)), .ref (E.1 (K + 104)), .ref (E.1 (K + 106)), .ref (E.1 (K + 110)), .ref (E.1 (K + 112)), .int 0, .ref (E.1 (K + 116)), .ref (E.1 (K + 117)), .ref (E.1 (K + 118)), .int 0])) (bkB15 E K)) → bk_G E { frames := 3, cells := 119, slots := 2069, locals := 40 * 3 } mX11_init 81 [some (.ref j), some (.int (nI i))] [] (bk_nf cs j (.inr (11, [.ref (E.1 (K + 0)), .ref (E.1 (K + 2)), .ref (E.1 (K + 3)), .ref (E.1 (K + 16)), .ref (E.1 (K + 17)), .int 0, .ref (E.1 (K + 29)), .int 0, .null, .null, .null, .null, .null, .null, .int 0, .null, .null, .null, .int 0])) (bkL E K i)) (30 + 14 * i) (1010 + 74 * i) 119 2069 (bk_nf cs j (.inr (11, [.ref (E.1 (K + 0)), .ref (E.1 (K + 2)), .ref (E.1 (K + 3)), .ref (E.1 (K + 16)), .ref (E.1 (K + 17)), .int 0, .ref (E.1 (K + 29)), .int 0, .ref (E.1 (K + 100)), .ref (E.1 (K + 102)), .ref (E.1 (K + 104)), .ref (E.1 (K + 106)), .ref (E.1 (K + 110)), .ref (E.1 (K + 112)), .int 0, .ref (E.1 (K + 116)), .ref (E.1 (K + 117)), .ref (E.1 (K + 118)), .int 0])) (bkB15 E K)) := by
    intro n
    induction n with
    | zero =>
      intro i h k
      have e : i = 5 := by omega
      subst e
      refine bk_iload_n dX11_init_81 rfl rfl ?_
      refine bk_aload_n dX11_init_82 rfl rfl ?_
      refine bn_get (k := 6) (x := K + 29) hjl kf_X11_50 rfl dX11_init_83 ?_
      refine bn_alen (i := 29) (k := 3) (v := 5) hK rfl bk_29 rfl dX11_init_86 ?_
      refine bk_icge_yes (tgt := 109) dX11_init_87 rfl (by decide) ?_
      exact k
    | succ n ih =>
      intro i h k
      refine bk_iload_n dX11_init_81 rfl rfl ?_
      refine bk_aload_n dX11_init_82 rfl rfl ?_
      refine bn_get (k := 6) (x := K + 29) hjl kf_X11_50 rfl dX11_init_83 ?_
      refine bn_alen (i := 29) (k := 3) (v := 5) hK rfl bk_29 rfl dX11_init_86 ?_
      refine bk_icge_no (tgt := 109) dX11_init_87 rfl (nI_ge (a := i) (b := 5) (by omega) (by decide)) ?_
      refine bk_aload_n dX11_init_90 rfl rfl ?_
      refine bn_get (k := 6) (x := K + 29) hjl kf_X11_50 rfl dX11_init_91 ?_
      refine bk_iload_n dX11_init_94 rfl rfl ?_
      refine bn_new (ci := 5) (m := 30 + 14 * i) hK bkL_len tyX5_ok in_X5 ⟨bw_mem1 194 (by decide +kernel) rfl, bw_mem1 196 (by decide +kernel) rfl, bw_mem1 7 (by decide +kernel) rfl⟩ rfl hfsX5 (by show 30 + 14 * i + 1 ≤ 119; omega) (by show 1010 + 74 * i + 2 ≤ 2069; omega) dX11_init_95 ?_
      refine bk_dup dX11_init_98 rfl ?_
      refine bn_callI (i := 30 + 14 * i) (As := []) hK ki_BentWords_54 (kX5 (K := K + (30 + 14 * i + 1)) (bk_nf_at hK (bk_last bkL_len)) (bk_nf_len hK (bk_len1 bkL_len))) rfl rfl (Nat.le_of_ble_eq_true rfl) ⟨Nat.le_of_ble_eq_true rfl, Nat.le_of_ble_eq_true rfl⟩ ⟨by show 30 + 14 * i + 1 + 13 ≤ 119; omega, by show 1010 + 74 * i + 2 + 72 ≤ 2069; omega⟩ dX11_init_99 ?_
      refine bk_eq (cs1 := bk_nf cs j (.inr (11, [.ref (E.1 (K + 0)), .ref (E.1 (K + 2)), .ref (E.1 (K + 3)), .ref (E.1 (K + 16)), .ref (E.1 (K + 17)), .int 0, .ref (E.1 (K + 29)), .int 0, .null, .null, .null, .null, .null, .null, .int 0, .null, .null, .null, .int 0])) (bkB5 E K ++ (.inl (E.2.2.2 3, 5, .inr (.inr (.inr (.inr (bk_rg E K i))))) :: bk_SS E K (i + 1)))) ?_ ?_
      · refine congrArg (bk_nf cs j _) ((bk_lastset bkL_len).trans ?_)
        unfold bkL
        rw [List.append_assoc, List.cons_append]
        rfl
      refine bn_aast (i := 29) (x := 30 + 14 * i) (k := 3) (ci := 5) (v := nI i) (r := (RX5, TX5, 2)) hK rfl bk_29 bk_30 rfl (bm_in (by omega) (by decide)) dX11_init_102 ?_
      rw [nI_clamp (by omega), bk_rg_up, bk_set29]
      refine bk_iinc (v := nI (i + 1)) dX11_init_103 rfl (nI_1 i) (by decide) rfl ?_
      refine bk_goto (tgt := 81) dX11_init_106 rfl ?_
      have g := ih (i + 1) (by omega) k
      rw [show 30 + 14 * (i + 1) = 30 + 14 * i + 1 + 13 by omega, show 1010 + 74 * (i + 1) = 1010 + 74 * i + 2 + 72 by omega] at g
      exact g
  refine bk_enter (by decide) rfl (Nat.le_of_ble_eq_true rfl) ?_
  refine bk_eq (bk_nf0 hj) ?_
  refine bk_aload_n dX11_init_0 rfl rfl ?_
  refine bk_oinit (bw_mem1 30 (by decide +kernel) rfl) ⟨(Nat.le_of_ble_eq_true rfl), (Nat.le_of_ble_eq_true rfl)⟩ dX11_init_1 ?_
  refine bk_eq (cs1 := bk_nf cs j _ (bkB0 E K)) rfl ?_
  refine bk_aload_n dX11_init_4 rfl rfl ?_
  refine bn_new (ci := 9) (m := 0) hK bkB0_len tyX9_ok in_X9 ⟨bw_mem1 33 (by decide +kernel) rfl, bw_mem1 34 (by decide +kernel) rfl, bw_mem1 2 (by decide +kernel) rfl⟩ rfl hfsX9 (Nat.le_of_ble_eq_true rfl) (Nat.le_of_ble_eq_true rfl) dX11_init_5 ?_
  refine bk_dup dX11_init_8 rfl ?_
  refine bn_callI (i := 0) (As := []) hK ki_BentWords_11 (kX9 (K := K + 1) (bk_nf_at hK (bk_last bkB0_len)) (bk_nf_len hK (bk_len1 bkB0_len))) rfl rfl (Nat.le_of_ble_eq_true rfl) ⟨(Nat.le_of_ble_eq_true rfl), (Nat.le_of_ble_eq_true rfl)⟩ ⟨(Nat.le_of_ble_eq_true rfl), (Nat.le_of_ble_eq_true rfl)⟩ dX11_init_9 ?_
  refine bk_eq (cs1 := bk_nf cs j _ (bkB1 E K)) (congrArg (bk_nf cs j _) (bk_lastset bkB0_len)) ?_
  refine bn_put (k := 0) (x := K + 0) hjl kf_X11_12 (fun _ => ⟨rfl, rfl⟩) (Nat.le_of_ble_eq_true rfl) dX11_init_12 ?_
  refine bk_aload_n dX11_init_15 rfl rfl ?_
  refine bn_new (ci := 0) (m := 2) hK bkB1_len tyX0_ok in_X0 ⟨bw_mem1 52 (by decide +kernel) rfl, bw_mem1 53 (by decide +kernel) rfl, bw_mem1 3 (by decide +kernel) rfl⟩ rfl hfsX0 (Nat.le_of_ble_eq_true rfl) (Nat.le_of_ble_eq_true rfl) dX11_init_16 ?_
  refine bk_dup dX11_init_19 rfl ?_
  refine bk_aload_n dX11_init_20 rfl rfl ?_
  refine bn_get (k := 0) (x := K + 0) hjl kf_X11_12 rfl dX11_init_21 ?_
  refine bn_callI (i := 2) (As := [.ref (K + 0)]) hK ki_BentWords_18 (kX0 (K := K + 3) (bk_nf_at hK (bk_last bkB1_len)) (bk_nf_len hK (bk_len1 bkB1_len))) rfl rfl (Nat.le_of_ble_eq_true rfl) ⟨(Nat.le_of_ble_eq_true rfl), (Nat.le_of_ble_eq_true rfl)⟩ ⟨(Nat.le_of_ble_eq_true rfl), (Nat.le_of_ble_eq_true rfl)⟩ dX11_init_24 ?_
  refine bk_eq (cs1 := bk_nf cs j _ (bkB2 E K)) (congrArg (bk_nf cs j _) (bk_lastset bkB1_len)) ?_
  refine bn_put (k := 1) (x := K + 2) hjl kf_X11_21 (fun _ => ⟨rfl, rfl⟩) (Nat.le_of_ble_eq_true rfl) dX11_init_27 ?_
  refine bk_aload_n dX11_init_30 rfl rfl ?_
  refine bn_new (ci := 4) (m := 3) hK bkB2_len tyX4_ok in_X4 ⟨bw_mem1 87 (by decide +kernel) rfl, bw_mem1 88 (by decide +kernel) rfl, bw_mem1 4 (by decide +kernel) rfl⟩ rfl hfsX4 (Nat.le_of_ble_eq_true rfl) (Nat.le_of_ble_eq_true rfl) dX11_init_31 ?_
  refine bk_dup dX11_init_34 rfl ?_
  refine bk_aload_n dX11_init_35 rfl rfl ?_
  refine bn_get (k := 1) (x := K + 2) hjl kf_X11_21 rfl dX11_init_36 ?_
  refine bn_callI (i := 3) (As := [.ref (K + 2)]) hK ki_BentWords_27 (kX4 (K := K + 4) (bk_nf_at hK (bk_last bkB2_len)) (bk_nf_len hK (bk_len1 bkB2_len))) rfl rfl (Nat.le_of_ble_eq_true rfl) ⟨(Nat.le_of_ble_eq_true rfl), (Nat.le_of_ble_eq_true rfl)⟩ ⟨(Nat.le_of_ble_eq_true rfl), (Nat.le_of_ble_eq_true rfl)⟩ dX11_init_39 ?_
  refine bk_eq (cs1 := bk_nf cs j _ (bkB3 E K)) (congrArg (bk_nf cs j _) (bk_lastset bkB2_len)) ?_
  refine bn_put (k := 2) (x := K + 3) hjl kf_X11_30 (fun _ => ⟨rfl, rfl⟩) (Nat.le_of_ble_eq_true rfl) dX11_init_42 ?_
  refine bk_aload_n dX11_init_45 rfl rfl ?_
  refine bn_new (ci := 6) (m := 16) hK bkB3_len tyX6_ok in_X6 ⟨bw_mem1 182 (by decide +kernel) rfl, bw_mem1 183 (by decide +kernel) rfl, bw_mem1 6 (by decide +kernel) rfl⟩ rfl hfsX6 (Nat.le_of_ble_eq_true rfl) (Nat.le_of_ble_eq_true rfl) dX11_init_46 ?_
  refine bk_dup dX11_init_49 rfl ?_
  refine bk_aload_n dX11_init_50 rfl rfl ?_
  refine bn_get (k := 1) (x := K + 2) hjl kf_X11_21 rfl dX11_init_51 ?_
  refine bn_callI (i := 16) (As := [.ref (K + 2)]) hK ki_BentWords_36 (kX6 (K := K + 17) (bk_nf_at hK (bk_last bkB3_len)) (bk_nf_len hK (bk_len1 bkB3_len))) rfl rfl (Nat.le_of_ble_eq_true rfl) ⟨(Nat.le_of_ble_eq_true rfl), (Nat.le_of_ble_eq_true rfl)⟩ ⟨(Nat.le_of_ble_eq_true rfl), (Nat.le_of_ble_eq_true rfl)⟩ dX11_init_54 ?_
  refine bk_eq (cs1 := bk_nf cs j _ (bkB4 E K)) (congrArg (bk_nf cs j _) (bk_lastset bkB3_len)) ?_
  refine bn_put (k := 3) (x := K + 16) hjl kf_X11_37 (fun _ => ⟨rfl, rfl⟩) (Nat.le_of_ble_eq_true rfl) dX11_init_57 ?_
  refine bk_aload_n dX11_init_60 rfl rfl ?_
  refine bn_new (ci := 3) (m := 17) hK bkB4_len tyX3_ok in_X3 ⟨bw_mem1 192 (by decide +kernel) rfl, bw_mem1 94 (by decide +kernel) rfl, bw_mem1 5 (by decide +kernel) rfl⟩ rfl hfsX3 (Nat.le_of_ble_eq_true rfl) (Nat.le_of_ble_eq_true rfl) dX11_init_61 ?_
  refine bk_dup dX11_init_64 rfl ?_
  refine bn_callI (i := 17) (As := []) hK ki_BentWords_43 (kX3 (K := K + 18) (bk_nf_at hK (bk_last bkB4_len)) (bk_nf_len hK (bk_len1 bkB4_len))) rfl rfl (Nat.le_of_ble_eq_true rfl) ⟨(Nat.le_of_ble_eq_true rfl), (Nat.le_of_ble_eq_true rfl)⟩ ⟨(Nat.le_of_ble_eq_true rfl), (Nat.le_of_ble_eq_true rfl)⟩ dX11_init_65 ?_
  refine bk_eq (cs1 := bk_nf cs j _ (bkB5 E K)) (congrArg (bk_nf cs j _) (bk_lastset bkB4_len)) ?_
  refine bn_put (k := 4) (x := K + 17) hjl kf_X11_44 (fun _ => ⟨rfl, rfl⟩) (Nat.le_of_ble_eq_true rfl) dX11_init_68 ?_
  refine bk_aload_n dX11_init_71 rfl rfl ?_
  refine bk_iconst (v := 5) dX11_init_72 rfl ?_
  refine bn_newq (k := 3) (m := 29) (N := 5) hK bkB5_len rfl (bw_mem1 194 (by decide +kernel) rfl) (fun U h => h.2.1) rfl (by decide) (by decide) (Nat.le_of_ble_eq_true rfl) (Nat.le_of_ble_eq_true rfl) dX11_init_73 ?_
  refine bn_put (k := 6) (x := K + 29) hjl kf_X11_50 (fun _ => ⟨rfl, rfl⟩) (Nat.le_of_ble_eq_true rfl) dX11_init_76 ?_
  refine bk_iconst (v := 0) dX11_init_79 rfl ?_
  refine bk_istore_n dX11_init_80 rfl (by decide) rfl ?_
  refine bk_eq (cs1 := bk_nf cs j _ (bkL E K 0)) rfl (key 5 0 rfl ?_)
  refine bk_eq (cs1 := bk_nf cs j _ (bkB6 E K)) rfl ?_
  refine bk_aload_n dX11_init_109 rfl rfl ?_
  refine bn_new (ci := 7) (m := 100) hK bkB6_len tyX7_ok in_X7 ⟨bw_mem2 9 (by decide +kernel) rfl, bw_mem2 10 (by decide +kernel) rfl, bw_mem1 9 (by decide +kernel) rfl⟩ rfl hfsX7 (Nat.le_of_ble_eq_true rfl) (Nat.le_of_ble_eq_true rfl) dX11_init_110 ?_
  refine bk_dup dX11_init_113 rfl ?_
  refine bn_callI (i := 100) (As := []) hK ki_BentWords_57 (kX7 (K := K + 101) (bk_nf_at hK (bk_last bkB6_len)) (bk_nf_len hK (bk_len1 bkB6_len))) rfl rfl (Nat.le_of_ble_eq_true rfl) ⟨(Nat.le_of_ble_eq_true rfl), (Nat.le_of_ble_eq_true rfl)⟩ ⟨(Nat.le_of_ble_eq_true rfl), (Nat.le_of_ble_eq_true rfl)⟩ dX11_init_114 ?_
  refine bk_eq (cs1 := bk_nf cs j _ (bkB7 E K)) (congrArg (bk_nf cs j _) (bk_lastset bkB6_len)) ?_
  refine bn_put (k := 8) (x := K + 100) hjl kf_X11_58 (fun _ => ⟨rfl, rfl⟩) (Nat.le_of_ble_eq_true rfl) dX11_init_117 ?_
  refine bk_aload_n dX11_init_120 rfl rfl ?_
  refine bn_new (ci := 7) (m := 102) hK bkB7_len tyX7_ok in_X7 ⟨bw_mem2 9 (by decide +kernel) rfl, bw_mem2 10 (by decide +kernel) rfl, bw_mem1 9 (by decide +kernel) rfl⟩ rfl hfsX7 (Nat.le_of_ble_eq_true rfl) (Nat.le_of_ble_eq_true rfl) dX11_init_121 ?_
  refine bk_dup dX11_init_124 rfl ?_
  refine bn_callI (i := 102) (As := []) hK ki_BentWords_57 (kX7 (K := K + 103) (bk_nf_at hK (bk_last bkB7_len)) (bk_nf_len hK (bk_len1 bkB7_len))) rfl rfl (Nat.le_of_ble_eq_true rfl) ⟨(Nat.le_of_ble_eq_true rfl), (Nat.le_of_ble_eq_true rfl)⟩ ⟨(Nat.le_of_ble_eq_true rfl), (Nat.le_of_ble_eq_true rfl)⟩ dX11_init_125 ?_
  refine bk_eq (cs1 := bk_nf cs j _ (bkB8 E K)) (congrArg (bk_nf cs j _) (bk_lastset bkB7_len)) ?_
  refine bn_put (k := 9) (x := K + 102) hjl kf_X11_62 (fun _ => ⟨rfl, rfl⟩) (Nat.le_of_ble_eq_true rfl) dX11_init_128 ?_
  refine bk_aload_n dX11_init_131 rfl rfl ?_
  refine bn_new (ci := 10) (m := 104) hK bkB8_len tyX10_ok in_X10 ⟨bw_mem2 22 (by decide +kernel) rfl, bw_mem2 23 (by decide +kernel) rfl, bw_mem1 10 (by decide +kernel) rfl⟩ rfl hfsX10 (Nat.le_of_ble_eq_true rfl) (Nat.le_of_ble_eq_true rfl) dX11_init_132 ?_
  refine bk_dup dX11_init_135 rfl ?_
  refine bk_aload_n dX11_init_136 rfl rfl ?_
  refine bn_get (k := 4) (x := K + 17) hjl kf_X11_44 rfl dX11_init_137 ?_
  refine bk_aload_n dX11_init_140 rfl rfl ?_
  refine bn_get (k := 8) (x := K + 100) hjl kf_X11_58 rfl dX11_init_141 ?_
  refine bn_callI (i := 104) (As := [.ref (K + 17), .ref (K + 100)]) hK ki_BentWords_67 (kX10 (K := K + 105) (bk_nf_at hK (bk_last bkB8_len)) (bk_nf_len hK (bk_len1 bkB8_len))) rfl rfl (Nat.le_of_ble_eq_true rfl) ⟨(Nat.le_of_ble_eq_true rfl), (Nat.le_of_ble_eq_true rfl)⟩ ⟨(Nat.le_of_ble_eq_true rfl), (Nat.le_of_ble_eq_true rfl)⟩ dX11_init_144 ?_
  refine bk_eq (cs1 := bk_nf cs j _ (bkB9 E K)) (congrArg (bk_nf cs j _) (bk_lastset bkB8_len)) ?_
  refine bn_put (k := 10) (x := K + 104) hjl kf_X11_70 (fun _ => ⟨rfl, rfl⟩) (Nat.le_of_ble_eq_true rfl) dX11_init_147 ?_
  refine bk_aload_n dX11_init_150 rfl rfl ?_
  refine bn_new (ci := 2) (m := 106) hK bkB9_len tyX2_ok in_X2 ⟨bw_mem2 54 (by decide +kernel) rfl, bw_mem2 55 (by decide +kernel) rfl, bw_mem1 11 (by decide +kernel) rfl⟩ rfl hfsX2 (Nat.le_of_ble_eq_true rfl) (Nat.le_of_ble_eq_true rfl) dX11_init_151 ?_
  refine bk_dup dX11_init_154 rfl ?_
  refine bn_callI (i := 106) (As := []) hK ki_BentWords_76 (kX2 (K := K + 107) (bk_nf_at hK (bk_last bkB9_len)) (bk_nf_len hK (bk_len1 bkB9_len))) rfl rfl (Nat.le_of_ble_eq_true rfl) ⟨(Nat.le_of_ble_eq_true rfl), (Nat.le_of_ble_eq_true rfl)⟩ ⟨(Nat.le_of_ble_eq_true rfl), (Nat.le_of_ble_eq_true rfl)⟩ dX11_init_155 ?_
  refine bk_eq (cs1 := bk_nf cs j _ (bkB10 E K)) (congrArg (bk_nf cs j _) (bk_lastset bkB9_len)) ?_
  refine bn_put (k := 11) (x := K + 106) hjl kf_X11_77 (fun _ => ⟨rfl, rfl⟩) (Nat.le_of_ble_eq_true rfl) dX11_init_158 ?_
  refine bk_aload_n dX11_init_161 rfl rfl ?_
  refine bn_new (ci := 7) (m := 110) hK bkB10_len tyX7_ok in_X7 ⟨bw_mem2 9 (by decide +kernel) rfl, bw_mem2 10 (by decide +kernel) rfl, bw_mem1 9 (by decide +kernel) rfl⟩ rfl hfsX7 (Nat.le_of_ble_eq_true rfl) (Nat.le_of_ble_eq_true rfl) dX11_init_162 ?_
  refine bk_dup dX11_init_165 rfl ?_
  refine bn_callI (i := 110) (As := []) hK ki_BentWords_57 (kX7 (K := K + 111) (bk_nf_at hK (bk_last bkB10_len)) (bk_nf_len hK (bk_len1 bkB10_len))) rfl rfl (Nat.le_of_ble_eq_true rfl) ⟨(Nat.le_of_ble_eq_true rfl), (Nat.le_of_ble_eq_true rfl)⟩ ⟨(Nat.le_of_ble_eq_true rfl), (Nat.le_of_ble_eq_true rfl)⟩ dX11_init_166 ?_
  refine bk_eq (cs1 := bk_nf cs j _ (bkB11 E K)) (congrArg (bk_nf cs j _) (bk_lastset bkB10_len)) ?_
  refine bn_put (k := 12) (x := K + 110) hjl kf_X11_81 (fun _ => ⟨rfl, rfl⟩) (Nat.le_of_ble_eq_true rfl) dX11_init_169 ?_
  refine bk_aload_n dX11_init_172 rfl rfl ?_
  refine bn_new (ci := 2) (m := 112) hK bkB11_len tyX2_ok in_X2 ⟨bw_mem2 54 (by decide +kernel) rfl, bw_mem2 55 (by decide +kernel) rfl, bw_mem1 11 (by decide +kernel) rfl⟩ rfl hfsX2 (Nat.le_of_ble_eq_true rfl) (Nat.le_of_ble_eq_true rfl) dX11_init_173 ?_
  refine bk_dup dX11_init_176 rfl ?_
  refine bn_callI (i := 112) (As := []) hK ki_BentWords_76 (kX2 (K := K + 113) (bk_nf_at hK (bk_last bkB11_len)) (bk_nf_len hK (bk_len1 bkB11_len))) rfl rfl (Nat.le_of_ble_eq_true rfl) ⟨(Nat.le_of_ble_eq_true rfl), (Nat.le_of_ble_eq_true rfl)⟩ ⟨(Nat.le_of_ble_eq_true rfl), (Nat.le_of_ble_eq_true rfl)⟩ dX11_init_177 ?_
  refine bk_eq (cs1 := bk_nf cs j _ (bkB12 E K)) (congrArg (bk_nf cs j _) (bk_lastset bkB11_len)) ?_
  refine bn_put (k := 13) (x := K + 112) hjl kf_X11_84 (fun _ => ⟨rfl, rfl⟩) (Nat.le_of_ble_eq_true rfl) dX11_init_180 ?_
  refine bk_aload_n dX11_init_183 rfl rfl ?_
  refine bk_iconst (v := 3) dX11_init_184 rfl ?_
  refine bn_newi (m := 116) (N := 3) hK bkB12_len rfl (by decide) (by decide) (Nat.le_of_ble_eq_true rfl) (Nat.le_of_ble_eq_true rfl) dX11_init_185 ?_
  refine bk_eq (cs1 := bk_nf cs j _ (bkB13 E K)) rfl ?_
  refine bn_put (k := 15) (x := K + 116) hjl kf_X11_87 (fun _ => ⟨rfl, rfl⟩) (Nat.le_of_ble_eq_true rfl) dX11_init_187 ?_
  refine bk_aload_n dX11_init_190 rfl rfl ?_
  refine bn_new (ci := 1) (m := 117) hK bkB13_len tyX1_ok in_X1 ⟨bw_mem2 77 (by decide +kernel) rfl, bw_mem2 78 (by decide +kernel) rfl, bw_mem1 12 (by decide +kernel) rfl⟩ rfl hfsX1 (Nat.le_of_ble_eq_true rfl) (Nat.le_of_ble_eq_true rfl) dX11_init_191 ?_
  refine bk_dup dX11_init_194 rfl ?_
  refine bn_callN (x := K + 117) (As := []) ki_BentWords_93 kX1 rfl rfl (Nat.le_of_ble_eq_true rfl) ⟨(Nat.le_of_ble_eq_true rfl), (Nat.le_of_ble_eq_true rfl)⟩ ⟨(Nat.le_of_ble_eq_true rfl), (Nat.le_of_ble_eq_true rfl)⟩ dX11_init_195 ?_
  refine bk_eq (cs1 := bk_nf cs j _ (bkB14 E K)) rfl ?_
  refine bn_put (k := 16) (x := K + 117) hjl kf_X11_94 (fun _ => ⟨rfl, rfl⟩) (Nat.le_of_ble_eq_true rfl) dX11_init_198 ?_
  refine bk_aload_n dX11_init_201 rfl rfl ?_
  refine bn_new (ci := 8) (m := 118) hK bkB14_len tyX8_ok in_X8 ⟨bw_mem2 88 (by decide +kernel) rfl, bw_mem1 203 (by decide +kernel) rfl, bw_mem1 8 (by decide +kernel) rfl⟩ rfl hfsX8 (Nat.le_of_ble_eq_true rfl) (Nat.le_of_ble_eq_true rfl) dX11_init_202 ?_
  refine bk_dup dX11_init_205 rfl ?_
  refine bn_callN (x := K + 118) (As := []) ki_BentWords_100 kX8 rfl rfl (Nat.le_of_ble_eq_true rfl) ⟨(Nat.le_of_ble_eq_true rfl), (Nat.le_of_ble_eq_true rfl)⟩ ⟨(Nat.le_of_ble_eq_true rfl), (Nat.le_of_ble_eq_true rfl)⟩ dX11_init_206 ?_
  refine bk_eq (cs1 := bk_nf cs j _ (bkB15 E K)) rfl ?_
  refine bn_put (k := 17) (x := K + 118) hjl kf_X11_101 (fun _ => ⟨rfl, rfl⟩) (Nat.le_of_ble_eq_true rfl) dX11_init_209 ?_
  exact bk_ret rfl rfl rfl rfl dX11_init_212
