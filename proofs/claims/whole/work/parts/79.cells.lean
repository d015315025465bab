/-! the cells that the constructors made, by number -/
def bv_X11 (E : bw_E) : va_E := .inr (11, [.ref (E.1 (1 + 0)), .ref (E.1 (1 + 2)), .ref (E.1 (1 + 3)), .ref (E.1 (1 + 16)), .ref (E.1 (1 + 17)), .int 0, .ref (E.1 (1 + 29)), .int 0, .ref (E.1 (1 + 100)), .ref (E.1 (1 + 102)), .ref (E.1 (1 + 104)), .ref (E.1 (1 + 106)), .ref (E.1 (1 + 110)), .ref (E.1 (1 + 112)), .int 0, .ref (E.1 (1 + 116)), .ref (E.1 (1 + 117)), .ref (E.1 (1 + 118)), .int 0])
def bv_X12 (E : bw_E) : va_E := .inr (12, [.int 0, .ref (E.1 (121 + 0)), .int 0, .int 0, .int 0, .int 0, .int 0, .int 0, .int 0, .int 0, .int 0, .long 0, .ref (E.1 (121 + 1)), .ref (E.1 (121 + 2)), .ref (E.1 (121 + 3)), .ref (E.1 (121 + 4)), .ref (E.1 (121 + 5)), .ref (E.1 (121 + 6)), .ref (E.1 (121 + 7)), .ref (E.1 (121 + 8)), .int 0, .int 0, .ref (E.1 (121 + 9)), .ref (E.1 (121 + 10)), .ref (E.1 (121 + 11)), .int 0, .ref (E.1 (121 + 12)), .ref (E.1 (121 + 13)), .ref (E.1 (121 + 14)), .ref (E.1 (121 + 15)), .ref (E.1 (121 + 16)), .ref (E.1 (121 + 17)), .ref (E.1 (121 + 18)), .ref (E.1 (121 + 19)), .int 0, .int 0, .ref (E.1 (121 + 20)), .int 0, .int 0, .int 0, .int 0, .ref (E.1 (121 + 21)), .int 0, .long 0, .ref (E.1 (121 + 22)), .ref (E.1 (121 + 23)), .ref (E.1 (121 + 24)), .int 0, .int 0, .int 0, .ref (E.1 (121 + 25)), .int 0])
abbrev bv_d11 : va_E := .inr (11, [.null, .null, .null, .null, .null, .int 0, .null, .int 0, .null, .null, .null, .null, .null, .null, .int 0, .null, .null, .null, .int 0])
abbrev bv_d12 : va_E := .inr (12, [.int 0, .null, .int 0, .int 0, .int 0, .int 0, .int 0, .int 0, .int 0, .int 0, .int 0, .long 0, .null, .null, .null, .null, .null, .null, .null, .null, .int 0, .int 0, .null, .null, .null, .int 0, .null, .null, .null, .null, .null, .null, .null, .null, .int 0, .int 0, .null, .int 0, .int 0, .int 0, .int 0, .null, .int 0, .long 0, .null, .null, .null, .int 0, .int 0, .int 0, .null, .int 0])
def bv_C1 (E : bw_E) : List va_E := bk_nf [bv_d11] 0 (bv_X11 E) (bkB15 E 1)
def bv_C2 (E : bw_E) : List va_E := bk_nf (bv_C1 E ++ [bv_d12]) 120 (bv_X12 E) (bkM26 E 121)
def bv_CS (E : bw_E) : List va_E := bv_C2 E ++ [.inl (E.2.2.2 1, 1, .inr (.inl (fun _ => 0)))]
def bv_E (E : bw_E) (str : Nat → Nat) : bw_E := (fun i => if i < 148 then E.1 (bv_pos i) else str i, E.2)
theorem bk_in {A B : List va_E} {m i : Nat} {a : va_E} (hm : A.length = m) (h : B[i]? = some a) : (A ++ B)[m + i]? = some a := by
  rw [List.getElem?_append_right (by omega), hm, show m + i - m = i by omega]; exact h
theorem bk_ap {A B : List va_E} {i : Nat} {a : va_E} (h : A[i]? = some a) : (A ++ B)[i]? = some a := by
  rw [List.getElem?_append_left (List.getElem?_eq_some_iff.mp h).1]; exact h
theorem bkB1_up {E : bw_E} {i : Nat} {a : va_E} (h : (bkB0 E 1)[i]? = some a) : (bkB1 E 1)[i]? = some a := by unfold bkB1; exact bk_ap h
theorem bkB2_up {E : bw_E} {i : Nat} {a : va_E} (h : (bkB1 E 1)[i]? = some a) : (bkB2 E 1)[i]? = some a := by unfold bkB2; exact bk_ap h
theorem bkB3_up {E : bw_E} {i : Nat} {a : va_E} (h : (bkB2 E 1)[i]? = some a) : (bkB3 E 1)[i]? = some a := by unfold bkB3; exact bk_ap h
theorem bkB4_up {E : bw_E} {i : Nat} {a : va_E} (h : (bkB3 E 1)[i]? = some a) : (bkB4 E 1)[i]? = some a := by unfold bkB4; exact bk_ap h
theorem bkB5_up {E : bw_E} {i : Nat} {a : va_E} (h : (bkB4 E 1)[i]? = some a) : (bkB5 E 1)[i]? = some a := by unfold bkB5; exact bk_ap h
theorem bkB6_up {E : bw_E} {i : Nat} {a : va_E} (h : (bkB5 E 1)[i]? = some a) : (bkB6 E 1)[i]? = some a := by unfold bkB6 bkL; exact bk_ap h
theorem bkB7_up {E : bw_E} {i : Nat} {a : va_E} (h : (bkB6 E 1)[i]? = some a) : (bkB7 E 1)[i]? = some a := by unfold bkB7; exact bk_ap h
theorem bkB8_up {E : bw_E} {i : Nat} {a : va_E} (h : (bkB7 E 1)[i]? = some a) : (bkB8 E 1)[i]? = some a := by unfold bkB8; exact bk_ap h
theorem bkB9_up {E : bw_E} {i : Nat} {a : va_E} (h : (bkB8 E 1)[i]? = some a) : (bkB9 E 1)[i]? = some a := by unfold bkB9; exact bk_ap h
theorem bkB10_up {E : bw_E} {i : Nat} {a : va_E} (h : (bkB9 E 1)[i]? = some a) : (bkB10 E 1)[i]? = some a := by unfold bkB10; exact bk_ap h
theorem bkB11_up {E : bw_E} {i : Nat} {a : va_E} (h : (bkB10 E 1)[i]? = some a) : (bkB11 E 1)[i]? = some a := by unfold bkB11; exact bk_ap h
theorem bkB12_up {E : bw_E} {i : Nat} {a : va_E} (h : (bkB11 E 1)[i]? = some a) : (bkB12 E 1)[i]? = some a := by unfold bkB12; exact bk_ap h
theorem bkB13_up {E : bw_E} {i : Nat} {a : va_E} (h : (bkB12 E 1)[i]? = some a) : (bkB13 E 1)[i]? = some a := by unfold bkB13; exact bk_ap h
theorem bkB14_up {E : bw_E} {i : Nat} {a : va_E} (h : (bkB13 E 1)[i]? = some a) : (bkB14 E 1)[i]? = some a := by unfold bkB14; exact bk_ap h
theorem bkB15_up {E : bw_E} {i : Nat} {a : va_E} (h : (bkB14 E 1)[i]? = some a) : (bkB15 E 1)[i]? = some a := by unfold bkB15; exact bk_ap h
theorem bv_C1_len {E : bw_E} : (bv_C1 E).length = 120 := by unfold bv_C1; exact bk_nf_len (K := 1) rfl bkB15_len
theorem bv_inB {E : bw_E} {i : Nat} {a : va_E} (hi : i < 119) (h : (bkB15 E 1)[i]? = some a) : (bv_CS E)[1 + i]? = some a := by
  unfold bv_CS bv_C2
  refine bk_ap (bk_ap ?_)
  rw [List.getElem?_set_ne (by omega)]
  exact bk_ap (bk_nf_at (K := 1) rfl h)
theorem bv_inM {E : bw_E} {i : Nat} {a : va_E} (h : (bkM26 E 121)[i]? = some a) : (bv_CS E)[121 + i]? = some a := by
  unfold bv_CS bv_C2
  exact bk_ap (bk_nf_at (K := 121) (by rw [List.length_append, bv_C1_len]; rfl) h)
theorem bv_c1 {E : bw_E} {str : Nat → Nat} : (bv_CS E)[bv_pos 1]? = some (bw_ce (bv_E E str) bv_w0 1 (bw_sh 1)) := bv_inB (i := 0) (by decide) (bkB15_up (bkB14_up (bkB13_up (bkB12_up (bkB11_up (bkB10_up (bkB9_up (bkB8_up (bkB7_up (bkB6_up (bkB5_up (bkB4_up (bkB3_up (bkB2_up (by unfold bkB1; exact bk_in bkB0_len (i := 0) rfl)))))))))))))))
theorem bv_c5 {E : bw_E} {str : Nat → Nat} : (bv_CS E)[bv_pos 5]? = some (bw_ce (bv_E E str) bv_w0 5 (bw_sh 5)) := bv_inB (i := 4) (by decide) (bkB15_up (bkB14_up (bkB13_up (bkB12_up (bkB11_up (bkB10_up (bkB9_up (bkB8_up (bkB7_up (bkB6_up (bkB5_up (bkB4_up (by unfold bkB3; exact bk_in bkB2_len (i := 1) rfl)))))))))))))
theorem bv_c32 {E : bw_E} {str : Nat → Nat} : (bv_CS E)[bv_pos 32]? = some (bw_ce (bv_E E str) bv_w0 32 (bw_sh 32)) := bv_inB (i := 101) (by decide) (bkB15_up (bkB14_up (bkB13_up (bkB12_up (bkB11_up (bkB10_up (bkB9_up (bkB8_up (by unfold bkB7; exact bk_in bkB6_len (i := 1) rfl)))))))))
theorem bv_c49 {E : bw_E} {str : Nat → Nat} : (bv_CS E)[bv_pos 49]? = some (bw_ce (bv_E E str) bv_w0 49 (bw_sh 49)) := bv_inB (i := 118) (by decide) (by unfold bkB15; exact bk_in bkB14_len (i := 0) rfl)
