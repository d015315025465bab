/-! the cells that the constructors made, by number -/
def bv_X11 (E : bw_E) : va_E := .inr (11, [.ref (E.1 (1 + 0)), .ref (E.1 (1 + 2)), .ref (E.1 (1 + 3)), .ref (E.1 (1 + 16)), .ref (E.1 (1 + 17)), .int 0, .ref (E.1 (1 + 29)), .int 0, .ref (E.1 (1 + 100)), .ref (E.1 (1 + 102)), .ref (E.1 (1 + 104)), .ref (E.1 (1 + 106)), .ref (E.1 (1 + 110)), .ref (E.1 (1 + 112)), .int 0, .ref (E.1 (1 + 116)), .ref (E.1 (1 + 117)), .ref (E.1 (1 + 118)), .int 0])
def bv_X12 (E : bw_E) : va_E := .inr (12, [.int 0, .ref (E.1 (121 + 0)), .int 0, .int 0, .int 0, .int 0, .int 0, .int 0, .int 0, .int 0, .int 0, .long 0, .ref (E.1 (121 + 1)), .ref (E.1 (121 + 2)), .ref (E.1 (121 + 3)), .ref (E.1 (121 + 4)), .ref (E.1 (121 + 5)), .ref (E.1 (121 + 6)), .ref (E.1 (121 + 7)), .ref (E.1 (121 + 8)), .int 0, .int 0, .ref (E.1 (121 + 9)), .ref (E.1 (121 + 10)), .ref (E.1 (121 + 11)), .int 0, .ref (E.1 (121 + 12)), .ref (E.1 (121 + 13)), .ref (E.1 (121 + 14)), .ref (E.1 (121 + 15)), .ref (E.1 (121 + 16)), .ref (E.1 (121 + 17)), .ref (E.1 (121 + 18)), .ref (E.1 (121 + 19)), .int 0, .int 0, .ref (E.1 (121 + 20)), .int 0, .int 0, .int 0, .int 0, .ref (E.1 (121 + 21)), .int 0, .long 0, .ref (E.1 (121 + 22)), .ref (E.1 (121 + 23)), .ref (E.1 (121 + 24)), .int 0, .int 0, .int 0, .ref (E.1 (121 + 25)), .int 0])
abbrev bv_d11 : va_E := .inr (11, [.null, .null, .null, .null, .null, .int 0, .null, .int 0, .null, .null, .null, .null, .null, .null, .int 0, .null, .null, .null, .int 0])
abbrev bv_d12 : va_E := .inr (12, [.int 0, .null, .int 0, .int 0, .int 0, .int 0, .int 0, .int 0, .int 0, .int 0, .int 0, .long 0, .null, .null, .null, .null, .null, .null, .null, .null, .int 0, .int 0, .null, .null, .null, .int 0, .null, .null, .null, .null, .null, .null, .null, .null, .int 0, .int 0, .null, .int 0, .int 0, .int 0, .int 0, .null, .int 0, .long 0, .null, .null, .null, .int 0, .int 0, .int 0, .null, .int 0])
def bv_C1 (E : bw_E) : List va_E := bk_nf [bv_d11] 0 (bv_X11 E) (bkB15 E 1)
def bv_C2 (E : bw_E) : List va_E := bk_nf (bv_C1 E ++ [bv_d12]) 120 (bv_X12 E) (bkM26 E 121)
def bv_CS (E : bw_E) : List va_E := bv_C2 E ++ [.inl (E.2.2.2 1, 1, .inr (.inl (fun _ => 0)))]
def bv_E (E : bw_E) (str : Nat → Nat) : bw_E := (fun i => if i < 148 then E.1 (bv_pos i) else str i, E.2)
theorem bv_c0 {E : bw_E} {str : Nat → Nat} : (bv_CS E)[bv_pos 0]? = some (bw_ce (bv_E E str) bv_w0 0 (bw_sh 0)) := rfl
theorem bv_c5 {E : bw_E} {str : Nat → Nat} : (bv_CS E)[bv_pos 5]? = some (bw_ce (bv_E E str) bv_w0 5 (bw_sh 5)) := rfl
theorem bv_c32 {E : bw_E} {str : Nat → Nat} : (bv_CS E)[bv_pos 32]? = some (bw_ce (bv_E E str) bv_w0 32 (bw_sh 32)) := rfl
theorem bv_c50 {E : bw_E} {str : Nat → Nat} : (bv_CS E)[bv_pos 50]? = some (bw_ce (bv_E E str) bv_w0 50 (bw_sh 50)) := rfl
theorem bv_c77 {E : bw_E} {str : Nat → Nat} : (bv_CS E)[bv_pos 77]? = some (bw_ce (bv_E E str) bv_w0 77 (bw_sh 77)) := rfl
theorem bv_c88 {E : bw_E} {str : Nat → Nat} : (bv_CS E)[bv_pos 88]? = some (bw_ce (bv_E E str) bv_w0 88 (bw_sh 88)) := rfl
theorem bv_c147 {E : bw_E} {str : Nat → Nat} : (bv_CS E)[bv_pos 147]? = some (bw_ce (bv_E E str) bv_w0 147 (bw_sh 147)) := rfl
