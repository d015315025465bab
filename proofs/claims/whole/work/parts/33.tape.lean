/-! the tape -/
/-- the j-th byte of a number, the highest first -/
def bm_byte (a : Int32) (j : Nat) : Nat := a.toBitVec.toNat / 2 ^ (24 - 8 * j) % 256
theorem bm_byte_lt (a : Int32) (j : Nat) : bm_byte a j < 256 := Nat.mod_lt _ (by decide)
/-- bytes of a number from the j-th on, n of them, without those of 0 -/
def bm_bs (a : Int32) : Nat → Nat → List Nat
  | 0, _ => []
  | n + 1, j => if bm_byte a j = 0 then bm_bs a n (j + 1) else bm_byte a j :: bm_bs a n (j + 1)
def bm_fed (a b c d e : Int32) : List Nat := bm_bs a 4 0 ++ (bm_bs b 4 0 ++ (bm_bs c 4 0 ++ (bm_bs d 4 0 ++ bm_bs e 4 0)))
theorem bm_nI_of {v : BitVec 32} {n : Nat} (h : v.toNat = n) (hn : n < 2 ^ 31) : Int32.ofBitVec v = nI n := by
  apply Int32.toBitVec_inj.mp
  apply BitVec.eq_of_toNat_eq
  show v.toNat = (BitVec.ofNat 32 n).toNat
  rw [h, BitVec.toNat_ofNat, Nat.mod_eq_of_lt (by omega)]
theorem bm_ub {a : Int32} {j : Nat} (hj : j < 4) : ((a.toUInt32 >>> ((nI (24 - 8 * j)).toUInt32 &&& Int32.toUInt32 31)).toInt32) &&& 255 = nI (bm_byte a j) := by
  have hs : ∀ j, j < 4 → ((nI (24 - 8 * j)).toUInt32 &&& Int32.toUInt32 31) = UInt32.ofNat (24 - 8 * j) := by decide
  rw [hs j hj]
  have := bm_byte_lt a j
  refine bm_nI_of (v := ((a.toUInt32 >>> UInt32.ofNat (24 - 8 * j)).toInt32 &&& 255).toBitVec) ?_ (by omega)
  show ((a.toUInt32 >>> UInt32.ofNat (24 - 8 * j)).toBitVec &&& (255 : BitVec 32)).toNat = _
  rw [BitVec.toNat_and]
  have e1 : (a.toUInt32 >>> UInt32.ofNat (24 - 8 * j)).toBitVec.toNat = a.toBitVec.toNat / 2 ^ (24 - 8 * j) := by
    show (a.toUInt32 >>> UInt32.ofNat (24 - 8 * j)).toNat = _
    rw [UInt32.toNat_shiftRight, UInt32.toNat_ofNat', Nat.mod_eq_of_lt (show 24 - 8 * j < 2 ^ 32 by omega), Nat.mod_eq_of_lt (show 24 - 8 * j < 32 by omega), Nat.shiftRight_eq_div_pow]
    rfl
  rw [e1]
  show _ &&& 255 = _
  rw [show 255 = 2 ^ 8 - 1 from rfl, Nat.and_two_pow_sub_one_eq_mod]
  rfl
theorem bm_sb2 {a : Int32} {j : Nat} (hj : j < 4) : (a >>> (nI (24 - 8 * j) &&& 31)) &&& 255 = nI (bm_byte a j) := by
  rw [← bm_ub hj]
  apply Int32.toBitVec_inj.mp
  have hs : ∀ j, j < 4 → (nI (24 - 8 * j) &&& 31).toBitVec.smod 32 = BitVec.ofNat 32 (24 - 8 * j) ∧ ((nI (24 - 8 * j)).toUInt32 &&& Int32.toUInt32 31) = UInt32.ofNat (24 - 8 * j) := by decide
  rw [(hs j hj).2]
  apply BitVec.eq_of_getLsbD_eq
  intro i hi
  show ((a.toBitVec.sshiftRight' ((nI (24 - 8 * j) &&& 31).toBitVec.smod 32)) &&& (255 : BitVec 32)).getLsbD i = ((a.toUInt32.toBitVec >>> ((UInt32.ofNat (24 - 8 * j)).toBitVec % 32)) &&& (255 : BitVec 32)).getLsbD i
  rw [(hs j hj).1, BitVec.getLsbD_and, BitVec.getLsbD_and]
  sorry
