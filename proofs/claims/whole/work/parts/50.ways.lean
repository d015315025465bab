/-! ways by draws -/
def bm_nx (x : Int64) : Int64 := (x * 6364136223846793005) + 1442695040888963407
def bm_dr (x : Int64) (m : Nat) : Nat := ((bm_nx x).toUInt64.toNat / 2 ^ 33) % m
theorem bm_dr_lt {x : Int64} {m : Nat} (h : 0 < m) : bm_dr x m < m := Nat.mod_lt _ h
theorem bm_sh33 (v : Int64) : (v.toUInt64 >>> ((33 : Int32).toInt64.toUInt64 &&& Int64.toUInt64 63)).toInt64 = lN (v.toUInt64.toNat / 2 ^ 33) := by
  have hs : ((33 : Int32).toInt64.toUInt64 &&& Int64.toUInt64 63) = UInt64.ofNat 33 := by decide
  rw [hs]
  have hv := v.toUInt64.toNat_lt
  have e2 : v.toUInt64 >>> UInt64.ofNat 33 = UInt64.ofNat (v.toUInt64.toNat / 2 ^ 33) := by
    apply UInt64.toNat_inj.mp
    rw [UInt64.toNat_shiftRight, UInt64.toNat_ofNat', UInt64.toNat_ofNat', Nat.mod_eq_of_lt (show 33 < 2 ^ 64 by decide), Nat.mod_eq_of_lt (show v.toUInt64.toNat / 2 ^ 33 < 2 ^ 64 by omega), Nat.shiftRight_eq_div_pow]
  rw [e2]
  rfl
theorem bm_drv {x : Int64} {m : Nat} (h0 : 0 < m) (hm : m < 2 ^ 31) : (((((x * 6364136223846793005) + 1442695040888963407).toUInt64 >>> ((33 : Int32).toInt64.toUInt64 &&& Int64.toUInt64 63)).toInt64) - ((((x * 6364136223846793005) + 1442695040888963407).toUInt64 >>> ((33 : Int32).toInt64.toUInt64 &&& Int64.toUInt64 63)).toInt64) / ((nI m).toInt64) * ((nI m).toInt64)).toInt32 = nI (bm_dr x m) := by
  have hv := (bm_nx x).toUInt64.toNat_lt
  show (((bm_nx x).toUInt64 >>> ((33 : Int32).toInt64.toUInt64 &&& Int64.toUInt64 63)).toInt64 - ((bm_nx x).toUInt64 >>> ((33 : Int32).toInt64.toUInt64 &&& Int64.toUInt64 63)).toInt64 / ((nI m).toInt64) * ((nI m).toInt64)).toInt32 = _
  rw [bm_sh33, nI_l hm, bm_lrem (by omega) h0 hm, lN_i]
  rfl
theorem bm_mne {m : Nat} (h0 : 0 < m) (hm : m < 2 ^ 31) : ¬ (nI m).toInt64 = 0 := by
  rw [nI_l hm, bm_l0 (by omega)]; omega
/-- what a way draws; how x is then -/
def bm_way (nn : Nat) (x : Int64) : bm_P × Int64 :=
  if bm_dr x 8 < 4 then ((0, bm_dr (bm_nx x) 3, bm_dr (bm_nx (bm_nx x)) nn, bm_dr (bm_nx (bm_nx (bm_nx x))) 4, []), bm_nx (bm_nx (bm_nx (bm_nx x))))
  else if bm_dr x 8 = 4 then ((1, bm_dr (bm_nx x) 3, 0, 0, []), bm_nx (bm_nx x))
  else if bm_dr x 8 = 5 then ((2, bm_dr (bm_nx x) 2, 0, 0, []), bm_nx (bm_nx x))
  else if bm_dr x 8 = 6 then ((3, bm_dr (bm_nx x) nn, bm_dr (bm_nx (bm_nx x)) 4, bm_dr (bm_nx (bm_nx (bm_nx x))) 2, [bm_dr (bm_nx (bm_nx (bm_nx (bm_nx x)))) 3 + 1, bm_dr (bm_nx (bm_nx (bm_nx (bm_nx (bm_nx x))))) 3 + 1, bm_dr (bm_nx (bm_nx (bm_nx (bm_nx (bm_nx (bm_nx x)))))) 3 + 1]), bm_nx (bm_nx (bm_nx (bm_nx (bm_nx (bm_nx (bm_nx x)))))))
  else ((4, bm_dr (bm_nx x) nn, bm_dr (bm_nx (bm_nx x)) 4, bm_dr (bm_nx (bm_nx (bm_nx x))) 2, []), bm_nx (bm_nx (bm_nx (bm_nx x))))
theorem bm_w3_ok {x y z : Int64} : bm_ok [bm_dr x 3 + 1, bm_dr y 3 + 1, bm_dr z 3 + 1] := by
  have h1 := bm_dr_lt (x := x) (m := 3) (by decide)
  have h2 := bm_dr_lt (x := y) (m := 3) (by decide)
  have h3 := bm_dr_lt (x := z) (m := 3) (by decide)
  refine ⟨by simp, fun q hq => ?_⟩
  rcases List.mem_cons.mp hq with rfl | hq
  · omega
  rcases List.mem_cons.mp hq with rfl | hq
  · omega
  rcases List.mem_cons.mp hq with rfl | hq
  · omega
  · cases hq
theorem bm_way_ok (nn : Nat) (x : Int64) : (bm_way nn x).1.1 ≤ 4 ∧ bm_ok (bm_way nn x).1.2.2.2.2 := by
  unfold bm_way
  split
  · exact ⟨by show 0 ≤ 4; omega, bm_ok_nil⟩
  split
  · exact ⟨by show 1 ≤ 4; omega, bm_ok_nil⟩
  split
  · exact ⟨by show 2 ≤ 4; omega, bm_ok_nil⟩
  split
  · exact ⟨by show 3 ≤ 4; omega, bm_w3_ok⟩
  · exact ⟨by show 4 ≤ 4; omega, bm_ok_nil⟩
def st_ways : Nat → Int64 → bm_S → bm_S
  | 0, _, S => S
  | n + 1, x, S => st_ways n (bm_way (bm_nn (st_X S)) x).2 (st_act S false (br_stp (st_X S) (st_N S) (bm_way (bm_nn (st_X S)) x).1))
theorem st_act_X (S : bm_S) (f : Bool) (r : Nat ⊕ bm_P) : st_X (st_act S f r) = st_X S := by
  cases r with
  | inl e => cases f <;> rfl
  | inr p => rfl
theorem st_ways_X : ∀ (n : Nat) (x : Int64) (S : bm_S), st_X (st_ways n x S) = st_X S
  | 0, _, _ => rfl
  | n + 1, x, S => by rw [st_ways, st_ways_X n, st_act_X]
theorem bm_wfS_ways : ∀ (n : Nat) (x : Int64) {K : Nat} {S : bm_S}, bm_wfS K S → bm_wfS (K + n) (st_ways n x S)
  | 0, _, _, _, h => h
  | n + 1, x, K, S, h => by
    have := bm_wfS_ways n (bm_way (bm_nn (st_X S)) x).2 (bm_wfS_act (f := false) (a := nI (bm_way (bm_nn (st_X S)) x).1.2.1) (b := nI (bm_way (bm_nn (st_X S)) x).1.2.2.1) (c := nI (bm_way (bm_nn (st_X S)) x).1.2.2.2.1) (bm_way_ok (bm_nn (st_X S)) x).1 (bm_way_ok (bm_nn (st_X S)) x).2 h)
    exact bm_wfS.up (k := K + 1 + n) this (by omega)
def bm_wn (a : Int32) : Option Nat := if 1 ≤ a.toInt ∧ a.toInt ≤ 40 then some a.toNatClampNeg else none
def br_ways (S : bm_S) (a : Int32) (x : Int64) : Int32 := if bm_nn (st_X S) = 0 then -1 else match bm_wn a with
  | none => -1
  | some n => nI (bm_many (st_X S) (st_N (st_ways n x S)) (bm_nm (st_X S)))
def st_wayz (S : bm_S) (a : Int32) (x : Int64) : bm_S := if bm_nn (st_X S) = 0 then S else match bm_wn a with
  | none => S
  | some n => st_ways n x S
theorem bm_wn_some {a : Int32} {n : Nat} (h : bm_wn a = some n) : 1 ≤ n ∧ n ≤ 40 ∧ a = nI n := by
  unfold bm_wn at h
  split at h
  · rename_i c
    cases h
    have e : a = nI a.toNatClampNeg := by
      have h0 : ¬ a < 0 := by rw [fa_lt]; show ¬ a.toInt < 0; omega
      obtain ⟨j, hj, rfl⟩ := nI_of h0
      rw [nI_clamp hj]
    have h1 : a.toInt = (a.toNatClampNeg : Int) := by
      show a.toInt = ((a.toInt.toNat : Nat) : Int)
      omega
    exact ⟨by omega, by omega, e⟩
  · cases h
theorem bm_wfS_wayz {K : Nat} {S : bm_S} {a : Int32} {x : Int64} (h : bm_wfS K S) : bm_wfS (K + 40) (st_wayz S a x) := by
  unfold st_wayz
  split
  · exact h.up (by omega)
  · cases e : bm_wn a with
    | none => exact h.up (by omega)
    | some n => exact (bm_wfS_ways n x h).up (by have := bm_wn_some e; omega)
section WAYS
variable {E : bw_E} {d : Nat} {w : bw_W} {S : bm_S} {K : Nat}
theorem xs_next {Q : Int32 → bw_W → Prop} {x : Int64} {m : Nat} (hx : gw_l w 48 0 = x) (h0 : 0 < m) (hm : m < 2 ^ 31) (hq : Q (nI (bm_dr x m)) (sw_l w 48 0 (bm_nx x))) : bw_ri E (d + 0) mX1_next [.ref 48, .int (nI m)] w Q := by
  refine wfX1_next (br_t (nI_le (a := 1) (by omega) hm) ⟨bm_mne h0 hm, ?_⟩)
  rw [hx, bm_drv h0 hm]; exact hq
theorem gx_48 {x : Int64} {c k : Nat} {v : Int32} : gw_l (sw_i (sw_l w 48 0 x) c k v) 48 0 = x := by rw [gs_li, gs_ll, if_pos ⟨rfl, rfl⟩]
theorem xs_drawWord {Q : Int64 → bw_W → Prop} {x : Int64} (hx : gw_l w 48 0 = x) (hq : ∀ w', bw_fr [48] w w' → gw_l w' 48 0 = bm_nx (bm_nx (bm_nx x)) → Q (bx_w [bm_dr x 3 + 1, bm_dr (bm_nx x) 3 + 1, bm_dr (bm_nx (bm_nx x)) 3 + 1]) w') : bw_rl E (d + 1) mX1_drawWord [.ref 48] w Q := by
  have l1 := bm_dr_lt (x := x) (m := 3) (by decide)
  have l2 := bm_dr_lt (x := bm_nx x) (m := 3) (by decide)
  have l3 := bm_dr_lt (x := bm_nx (bm_nx x)) (m := 3) (by decide)
  have o3 := bm_w3_ok (x := x) (y := bm_nx x) (z := bm_nx (bm_nx x))
  have o2 : ∀ y ∈ [bm_dr x 3 + 1, bm_dr (bm_nx x) 3 + 1], 1 ≤ y ∧ y ≤ 26 := fun y hy => o3.2 y (by
    rcases List.mem_cons.mp hy with h | h
    · rw [h]; simp
    · rw [List.mem_singleton.mp h]; simp)
  have o1 : ∀ y ∈ [bm_dr x 3 + 1], 1 ≤ y ∧ y ≤ 26 := fun y hy => by rw [List.mem_singleton.mp hy]; omega
  have a0 := bx_w_add (u := []) (x := bm_dr x 3 + 1) (by simp) (by simp) (by omega)
  have a1 := bx_w_add (u := [bm_dr x 3 + 1]) (x := bm_dr (bm_nx x) 3 + 1) o1 (by simp) (by omega)
  have a2 := bx_w_add (u := [bm_dr x 3 + 1, bm_dr (bm_nx x) 3 + 1]) (x := bm_dr (bm_nx (bm_nx x)) 3 + 1) o2 (by simp) (by omega)
  have e97 : ∀ k, (97 : Int32) + nI k = nI (96 + (k + 1)) := fun k => by rw [show (97 : Int32) = nI 97 from rfl, nI_add]; congr 1; omega
  refine wfX1_drawWord (wfX1_drawWord_4 (br_f (by decide) ⟨fun v w3 => v = nI (bm_dr x 3) ∧ w3 = sw_l w 48 0 (bm_nx x), xs_next (d := d) (m := 3) hx (by decide) (by decide) ⟨rfl, rfl⟩, ?_⟩))
  rintro _ _ ⟨rfl, rfl⟩
  rw [e97, show (0 : Int64) = bx_w [] from rfl, show (0 : Int32) = nI ([] : List Nat).length from rfl, a0]
  refine wfX1_drawWord_4 (br_f (by decide) ⟨fun v w3 => v = nI (bm_dr (bm_nx x) 3) ∧ w3 = sw_l (sw_l w 48 0 (bm_nx x)) 48 0 (bm_nx (bm_nx x)), xs_next (d := d) (m := 3) (by rw [gs_ll, if_pos ⟨rfl, rfl⟩]) (by decide) (by decide) ⟨rfl, rfl⟩, ?_⟩)
  rintro _ _ ⟨rfl, rfl⟩
  rw [e97, show nI ([] : List Nat).length + 1 = nI [bm_dr x 3 + 1].length from rfl, List.nil_append, a1]
  refine wfX1_drawWord_4 (br_f (by show ¬ (3 : Int32) ≤ nI 1 + 1; decide) ⟨fun v w3 => v = nI (bm_dr (bm_nx (bm_nx x)) 3) ∧ w3 = sw_l (sw_l (sw_l w 48 0 (bm_nx x)) 48 0 (bm_nx (bm_nx x))) 48 0 (bm_nx (bm_nx (bm_nx x))), xs_next (d := d) (m := 3) (by rw [gs_ll, if_pos ⟨rfl, rfl⟩]) (by decide) (by decide) ⟨rfl, rfl⟩, ?_⟩)
  rintro _ _ ⟨rfl, rfl⟩
  rw [e97, show nI [bm_dr x 3 + 1].length + 1 = nI [bm_dr x 3 + 1, bm_dr (bm_nx x) 3 + 1].length from rfl]
  rw [show [bm_dr x 3 + 1] ++ [bm_dr (bm_nx x) 3 + 1] = [bm_dr x 3 + 1, bm_dr (bm_nx x) 3 + 1] from rfl, a2]
  refine wfX1_drawWord_4 (br_t (by show (3 : Int32) ≤ nI 2 + 1; decide) ?_)
  exact hq _ ((((bw_fr.rf _ _).sl (by decide)).sl (by decide)).sl (by decide)) (by rw [gs_ll, if_pos ⟨rfl, rfl⟩])
theorem xs_drawStep {Q : bw_W → Prop} {x : Int64} {nn : Nat} (hx : gw_l w 48 0 = x) (h1 : 0 < nn) (h6 : nn ≤ 6) (hq : ∀ w', bw_fr [48, 49] w w' → gw_l w' 48 0 = (bm_way nn x).2 → bx_sf (bm_way nn x).1.1 (nI (bm_way nn x).1.2.1) (nI (bm_way nn x).1.2.2.1) (nI (bm_way nn x).1.2.2.2.1) (bm_way nn x).1.2.2.2.2 49 w' → Q w') : bw_rv E (d + 2) mX1_drawStep [.ref 48, .ref 49, .int (nI nn)] w Q := by
  have l8 := bm_dr_lt (x := x) (m := 8) (by decide)
  have i4 := nI_leI (a := 4) (b := bm_dr x 8) (by decide) (by omega)
  have j4 := nI_eq (a := bm_dr x 8) (b := 4) (by omega) (by decide)
  have j5 := nI_eq (a := bm_dr x 8) (b := 5) (by omega) (by decide)
  have j6 := nI_eq (a := bm_dr x 8) (b := 6) (by omega) (by decide)
  unfold bm_way at hq
  refine wfX1_drawStep ⟨fun v w3 => v = nI (bm_dr x 8) ∧ w3 = sw_l w 48 0 (bm_nx x), xs_next (d := d + 1) (m := 8) hx (by decide) (by decide) ⟨rfl, rfl⟩, ?_⟩
  rintro _ _ ⟨rfl, rfl⟩
  by_cases c4 : bm_dr x 8 < 4
  · rw [if_pos c4] at hq
    refine br_f (fun z => absurd (i4.mp z) (by omega)) ⟨fun v w' => v = nI (bm_dr (bm_nx x) 3) ∧ w' = sw_l (sw_i (sw_l w 48 0 (bm_nx x)) 49 0 0) 48 0 (bm_nx (bm_nx x)), xs_next (d := d + 1) (m := 3) gx_48 (by decide) (by decide) ⟨rfl, rfl⟩, ?_⟩
    rintro _ _ ⟨rfl, rfl⟩
    refine ⟨fun v w' => v = nI (bm_dr (bm_nx (bm_nx x)) nn) ∧ w' = sw_l (sw_i (sw_l (sw_i (sw_l w 48 0 (bm_nx x)) 49 0 0) 48 0 (bm_nx (bm_nx x))) 49 1 (nI (bm_dr (bm_nx x) 3))) 48 0 (bm_nx (bm_nx (bm_nx x))), xs_next (d := d + 1) (m := nn) gx_48 h1 (by omega) ⟨rfl, rfl⟩, ?_⟩
    rintro _ _ ⟨rfl, rfl⟩
    refine ⟨fun v w' => v = nI (bm_dr (bm_nx (bm_nx (bm_nx x))) 4) ∧ w' = sw_l (sw_i (sw_l (sw_i (sw_l (sw_i (sw_l w 48 0 (bm_nx x)) 49 0 0) 48 0 (bm_nx (bm_nx x))) 49 1 (nI (bm_dr (bm_nx x) 3))) 48 0 (bm_nx (bm_nx (bm_nx x)))) 49 2 (nI (bm_dr (bm_nx (bm_nx x)) nn))) 48 0 (bm_nx (bm_nx (bm_nx (bm_nx x)))), xs_next (d := d + 1) (m := 4) gx_48 (by decide) (by decide) ⟨rfl, rfl⟩, ?_⟩
    rintro _ _ ⟨rfl, rfl⟩
    refine hq _ ((((((((bw_fr.rf _ _).sl (by decide)).si (by decide)).sl (by decide)).si (by decide)).sl (by decide)).si (by decide)).sl (by decide) |>.si (by decide)) gx_48 ⟨?_, ?_, fun _ _ => ⟨?_, ?_⟩, fun z => absurd (show (0 : Nat) = 3 from z) (by decide)⟩
    · (simp [gs_ii, gs_il]; try rfl)
    · (simp [gs_ii, gs_il]; try rfl)
    · (simp [gs_ii, gs_il]; try rfl)
    · (simp [gs_ii, gs_il]; try rfl)
  rw [if_neg c4] at hq
  refine br_t (i4.mpr (by omega)) ?_
  by_cases d4 : bm_dr x 8 = 4
  · rw [if_pos d4] at hq
    refine br_nf (j4.mpr d4) ⟨fun v w' => v = nI (bm_dr (bm_nx x) 3) ∧ w' = sw_l (sw_i (sw_l w 48 0 (bm_nx x)) 49 0 1) 48 0 (bm_nx (bm_nx x)), xs_next (d := d + 1) (m := 3) gx_48 (by decide) (by decide) ⟨rfl, rfl⟩, ?_⟩
    rintro _ _ ⟨rfl, rfl⟩
    refine hq _ (((((bw_fr.rf _ _).sl (by decide)).si (by decide)).sl (by decide)).si (by decide)) gx_48 ⟨?_, ?_, fun z => absurd rfl z, fun z => absurd (show (1 : Nat) = 3 from z) (by decide)⟩
    · (simp [gs_ii, gs_il]; try rfl)
    · (simp [gs_ii, gs_il]; try rfl)
  rw [if_neg d4] at hq
  refine br_nt (fun z => d4 (j4.mp z)) ?_
  by_cases d5 : bm_dr x 8 = 5
  · rw [if_pos d5] at hq
    refine br_nf (j5.mpr d5) ⟨fun v w' => v = nI (bm_dr (bm_nx x) 2) ∧ w' = sw_l (sw_i (sw_l w 48 0 (bm_nx x)) 49 0 2) 48 0 (bm_nx (bm_nx x)), xs_next (d := d + 1) (m := 2) gx_48 (by decide) (by decide) ⟨rfl, rfl⟩, ?_⟩
    rintro _ _ ⟨rfl, rfl⟩
    refine hq _ (((((bw_fr.rf _ _).sl (by decide)).si (by decide)).sl (by decide)).si (by decide)) gx_48 ⟨?_, ?_, fun _ z => absurd rfl z, fun z => absurd (show (2 : Nat) = 3 from z) (by decide)⟩
    · (simp [gs_ii, gs_il]; try rfl)
    · (simp [gs_ii, gs_il]; try rfl)
  rw [if_neg d5] at hq
  refine br_nt (fun z => d5 (j5.mp z)) ?_
  by_cases d6 : bm_dr x 8 = 6
  · rw [if_pos d6] at hq
    refine br_nf (j6.mpr d6) ⟨fun v w' => v = nI (bm_dr (bm_nx x) nn) ∧ w' = sw_l (sw_i (sw_l w 48 0 (bm_nx x)) 49 0 3) 48 0 (bm_nx (bm_nx x)), xs_next (d := d + 1) (m := nn) gx_48 h1 (by omega) ⟨rfl, rfl⟩, ?_⟩
    rintro _ _ ⟨rfl, rfl⟩
    refine ⟨fun v w' => v = nI (bm_dr (bm_nx (bm_nx x)) 4) ∧ w' = sw_l (sw_i (sw_l (sw_i (sw_l w 48 0 (bm_nx x)) 49 0 3) 48 0 (bm_nx (bm_nx x))) 49 1 (nI (bm_dr (bm_nx x) nn))) 48 0 (bm_nx (bm_nx (bm_nx x))), xs_next (d := d + 1) (m := 4) gx_48 (by decide) (by decide) ⟨rfl, rfl⟩, ?_⟩
    rintro _ _ ⟨rfl, rfl⟩
    refine ⟨fun v w' => v = nI (bm_dr (bm_nx (bm_nx (bm_nx x))) 2) ∧ w' = sw_l (sw_i (sw_l (sw_i (sw_l (sw_i (sw_l w 48 0 (bm_nx x)) 49 0 3) 48 0 (bm_nx (bm_nx x))) 49 1 (nI (bm_dr (bm_nx x) nn))) 48 0 (bm_nx (bm_nx (bm_nx x)))) 49 2 (nI (bm_dr (bm_nx (bm_nx x)) 4))) 48 0 (bm_nx (bm_nx (bm_nx (bm_nx x)))), xs_next (d := d + 1) (m := 2) gx_48 (by decide) (by decide) ⟨rfl, rfl⟩, ?_⟩
    rintro _ _ ⟨rfl, rfl⟩
    generalize hwz : sw_i (sw_l (sw_i (sw_l (sw_i (sw_l (sw_i (sw_l w 48 0 (bm_nx x)) 49 0 3) 48 0 (bm_nx (bm_nx x))) 49 1 (nI (bm_dr (bm_nx x) nn))) 48 0 (bm_nx (bm_nx (bm_nx x)))) 49 2 (nI (bm_dr (bm_nx (bm_nx x)) 4))) 48 0 (bm_nx (bm_nx (bm_nx (bm_nx x))))) 49 3 (nI (bm_dr (bm_nx (bm_nx (bm_nx x))) 2)) = wz
    have fz : bw_fr [48, 49] w wz := by rw [← hwz]; exact ((((((((bw_fr.rf _ _).sl (by decide)).si (by decide)).sl (by decide)).si (by decide)).sl (by decide)).si (by decide)).sl (by decide) |>.si (by decide))
    have g0 : gw_i wz 49 0 = nI 3 := by rw [← hwz]; (simp [gs_ii, gs_il]; try rfl)
    have g1 : gw_i wz 49 1 = nI (bm_dr (bm_nx x) nn) := by rw [← hwz]; (simp [gs_ii, gs_il]; try rfl)
    have g2 : gw_i wz 49 2 = nI (bm_dr (bm_nx (bm_nx x)) 4) := by rw [← hwz]; (simp [gs_ii, gs_il]; try rfl)
    have g3 : gw_i wz 49 3 = nI (bm_dr (bm_nx (bm_nx (bm_nx x))) 2) := by rw [← hwz]; (simp [gs_ii, gs_il]; try rfl)
    refine br_nf (j6.mpr d6) ⟨fun v w' => v = bx_w [bm_dr (bm_nx (bm_nx (bm_nx (bm_nx x)))) 3 + 1, bm_dr (bm_nx (bm_nx (bm_nx (bm_nx (bm_nx x))))) 3 + 1, bm_dr (bm_nx (bm_nx (bm_nx (bm_nx (bm_nx (bm_nx x)))))) 3 + 1] ∧ bw_fr [48] wz w' ∧ gw_l w' 48 0 = bm_nx (bm_nx (bm_nx (bm_nx (bm_nx (bm_nx (bm_nx x)))))), xs_drawWord (d := d) (by rw [← hwz]; exact gx_48) (fun w' f g => ⟨rfl, f, g⟩), ?_⟩
    rintro _ w15 ⟨rfl, f15, g15⟩
    refine hq _ ((fz.tr (f15.up (by decide))).sl (by decide)) (by rw [gs_ll, if_neg (by decide)]; exact g15) ⟨?_, ?_, fun _ _ => ⟨?_, ?_⟩, fun _ => ?_⟩
    · rw [gs_il, f15.i (by decide)]; exact g0
    · rw [gs_il, f15.i (by decide)]; exact g1
    · rw [gs_il, f15.i (by decide)]; exact g2
    · rw [gs_il, f15.i (by decide)]; exact g3
    · rw [gs_ll, if_pos ⟨rfl, rfl⟩]
  rw [if_neg d6] at hq
  refine br_nt (fun z => d6 (j6.mp z)) ⟨fun v w' => v = nI (bm_dr (bm_nx x) nn) ∧ w' = sw_l (sw_i (sw_l w 48 0 (bm_nx x)) 49 0 4) 48 0 (bm_nx (bm_nx x)), xs_next (d := d + 1) (m := nn) gx_48 h1 (by omega) ⟨rfl, rfl⟩, ?_⟩
  rintro _ _ ⟨rfl, rfl⟩
  refine ⟨fun v w' => v = nI (bm_dr (bm_nx (bm_nx x)) 4) ∧ w' = sw_l (sw_i (sw_l (sw_i (sw_l w 48 0 (bm_nx x)) 49 0 4) 48 0 (bm_nx (bm_nx x))) 49 1 (nI (bm_dr (bm_nx x) nn))) 48 0 (bm_nx (bm_nx (bm_nx x))), xs_next (d := d + 1) (m := 4) gx_48 (by decide) (by decide) ⟨rfl, rfl⟩, ?_⟩
  rintro _ _ ⟨rfl, rfl⟩
  refine ⟨fun v w' => v = nI (bm_dr (bm_nx (bm_nx (bm_nx x))) 2) ∧ w' = sw_l (sw_i (sw_l (sw_i (sw_l (sw_i (sw_l w 48 0 (bm_nx x)) 49 0 4) 48 0 (bm_nx (bm_nx x))) 49 1 (nI (bm_dr (bm_nx x) nn))) 48 0 (bm_nx (bm_nx (bm_nx x)))) 49 2 (nI (bm_dr (bm_nx (bm_nx x)) 4))) 48 0 (bm_nx (bm_nx (bm_nx (bm_nx x)))), xs_next (d := d + 1) (m := 2) gx_48 (by decide) (by decide) ⟨rfl, rfl⟩, ?_⟩
  rintro _ _ ⟨rfl, rfl⟩
  refine br_nt (fun z => d6 (j6.mp z)) (hq _ ((((((((bw_fr.rf _ _).sl (by decide)).si (by decide)).sl (by decide)).si (by decide)).sl (by decide)).si (by decide)).sl (by decide) |>.si (by decide) |>.sl (by decide)) (by rw [gs_ll, if_neg (by decide)]; exact gx_48) ⟨?_, ?_, fun _ _ => ⟨?_, ?_⟩, fun z => absurd (show (4 : Nat) = 3 from z) (by decide)⟩)
  · (simp [gs_ii, gs_il]; try rfl)
  · (simp [gs_ii, gs_il]; try rfl)
  · (simp [gs_ii, gs_il]; try rfl)
  · (simp [gs_ii, gs_il]; try rfl)
abbrev bx_wyl : List Nat := [48, 49, 32, 35, 37, 38, 39, 40, 47]
theorem bx_sc48 : ∀ c, c ∈ [48, 49] → bx_sc c := fun c q => by
  have : ∀ c, c ∈ [48, 49] → c = 48 ∨ c = 49 := by decide
  have := this c q
  unfold bx_sc; omega
theorem bm_1le {a : Int32} : (¬ (a < 1)) ∧ (a ≤ 40) ↔ bm_wn a ≠ none := by
  rw [fa_lt, fa_le, show (1 : Int32).toInt = 1 from rfl, show (40 : Int32).toInt = 40 from rfl]
  unfold bm_wn
  split
  · rename_i c; exact ⟨fun _ q => (by cases q), fun _ => (by omega)⟩
  · rename_i c; exact ⟨fun q => absurd (by omega) c, fun q => absurd rfl q⟩
theorem bm_1lt {a : Int32} : (¬ (a < 1)) ∧ (¬ (40 < a)) ↔ bm_wn a ≠ none := by
  rw [fa_lt, fa_lt, show (1 : Int32).toInt = 1 from rfl, show (40 : Int32).toInt = 40 from rfl]
  unfold bm_wn
  split
  · rename_i c; exact ⟨fun _ q => (by cases q), fun _ => (by omega)⟩
  · rename_i c; exact ⟨fun q => absurd (by omega) c, fun q => absurd rfl q⟩
theorem qx_ways {Q : Int32 → bw_W → Prop} {a0 : Int32} {x : Int64} (hw : bm_wfS K S) (hK : K + 40 < 2 ^ 30) (h : bx_S S w) (hq : ∀ w', bw_fr bx_wyl w w' → bx_S (st_wayz S a0 x) w' → Q (br_ways S a0 x) w') : bw_ri E (d + 6) mX11_ways [.ref 0, .int a0, .long x] w Q := by
  unfold br_ways st_wayz at hq
  refine wfX11_ways ?_
  rw [bx_H0 h.2.2.1]
  by_cases hn : bm_nn (st_X S) = 0
  · rw [if_pos hn] at hq
    rw [if_pos hn] at hq
    exact br_t hn (hq w (bw_fr.rf _ _) h)
  rw [if_neg hn] at hq
  rw [if_neg hn] at hq
  refine br_f hn (br_mid bm_1le (fun z => ?_) (fun z => by rw [Classical.not_not.mp z] at hq; exact hq w (bw_fr.rf _ _) h))
  cases e : bm_wn a0 with
  | none => exact absurd e z
  | some n =>
    rw [e] at hq
    simp only at hq
    obtain ⟨n1, n40, rfl⟩ := bm_wn_some e
    have key : ∀ (j i : Nat) (y : Int64) (T : bm_S) (K' : Nat) (w' : bw_W), i + j = n → st_X T = st_X S → st_ways n x S = st_ways j y T → bm_wfS K' T → K' + j < 2 ^ 30 → bx_S T w' → gw_l w' 48 0 = y → bw_fr bx_wyl w w' → bw_G E (d + 6) mX11_ways 31 [some (.ref 0), some (.int (nI n)), some (.long x), none, some (.int (nI i))] [] w' (bw_qi Q) := by
      intro j
      induction j with
      | zero =>
        intro i y T K' w' hij hXT hgo hwT hKT hT hy f'
        have hgo' : st_ways n x S = T := hgo
        refine wfX11_ways_31 (br_t (nI_le (by omega) (by omega)) ⟨Q, xs_tellable (d := d) hT.2.1 hT.2.2.2.1 hwT.2.2.1.1 hwT.2.1 (fun w'' f'' => ?_), fun _ _ h => h⟩)
        rw [hgo'] at hq
        rw [hXT]
        exact hq w'' (f'.tr (f''.up (by decide))) (hT.fr hwT f'' bx_sc35)
      | succ j ih =>
        intro i y T K' w' hij hXT hgo hwT hKT hT hy f'
        have h6 := hwT.2.1.1
        have hn' : bm_nn (st_X T) ≠ 0 := by rw [hXT]; exact hn
        rw [st_ways] at hgo
        have ok := bm_way_ok (bm_nn (st_X T)) y
        refine wfX11_ways_31 (br_f (nI_ge (by omega) (by omega)) ?_)
        rw [hT.2.1.1]
        refine ⟨fun w6 => bw_fr [48, 49] w' w6 ∧ gw_l w6 48 0 = (bm_way (bm_nn (st_X T)) y).2 ∧ bx_sf (bm_way (bm_nn (st_X T)) y).1.1 (nI (bm_way (bm_nn (st_X T)) y).1.2.1) (nI (bm_way (bm_nn (st_X T)) y).1.2.2.1) (nI (bm_way (bm_nn (st_X T)) y).1.2.2.2.1) (bm_way (bm_nn (st_X T)) y).1.2.2.2.2 49 w6, xs_drawStep (d := d + 3) hy (by omega) h6 (fun w'' f g k => ⟨f, g, k⟩), ?_⟩
        rintro w6 ⟨f6, g6, k6⟩
        refine ⟨fun _ w9 => bw_fr bx_al w6 w9 ∧ bx_S (st_act T false (br_stp (st_X T) (st_N T) (bm_way (bm_nn (st_X T)) y).1)) w9, xs_act (d := d) (f := false) hwT (by omega) (hT.fr hwT f6 bx_sc48) (by decide) ok.1 ok.2 k6 (fun w'' f g => ⟨f, g⟩), ?_⟩
        rintro _ w9 ⟨f9, h9⟩
        rw [nI_1]
        exact ih (i + 1) _ _ (K' + 1) w9 (by omega) (by rw [st_act_X]; exact hXT) hgo (bm_wfS_act ok.1 ok.2 hwT) (by omega) h9 (by rw [f9.l (by decide)]; exact g6) ((f'.tr (f6.up (by decide))).tr (f9.up (by decide)))
    refine key n 0 x S K (sw_l w 48 0 x) (by omega) rfl rfl hw (by omega) (h.fr hw ((bw_fr.rf _ _).sl (by decide)) bx_sc48) (by rw [gs_ll, if_pos ⟨rfl, rfl⟩]) ((bw_fr.rf _ _).sl (by decide))
/-! the reference's draws -/
theorem yv_draw {x : Int64} {m : Nat} (hx : gw_l w 50 43 = x) (h0 : 0 < m) (hm : m < 2 ^ 31) : vX12_draw w (nI m) = nI (bm_dr x m) := by
  unfold vX12_draw
  rw [hx, bm_drv h0 hm]
theorem by_S43 {T : bm_S} {w w' : bw_W} (h : by_S T w) (hf : by_fr [] [43] w w') : by_S T w' := h.fr hf (fun c q => by cases q) (fun c q => by rw [List.mem_singleton.mp q]; unfold by_sf; omega)
abbrev by_wyf : List Nat := [43, 37, 38, 39, 40, 42]
theorem ys_drawsForm {Q : bw_W → Prop} {f : Bool} {x : Int64} (hw : bm_wfS K S) (h : by_S S w) (hn : bm_nn (st_X S) ≠ 0) (hx : gw_l w 50 43 = x) (hq : ∀ w', by_fr by_al by_wyf w w' → gw_l w' 50 43 = (if f then bm_nx (bm_nx (bm_nx (bm_nx (bm_nx (bm_nx x))))) else bm_nx (bm_nx (bm_nx x))) → by_S (st_act S false (br_stp (st_X S) (st_N S) (if f then (3, bm_dr x (bm_nn (st_X S)), bm_dr (bm_nx x) 4, bm_dr (bm_nx (bm_nx x)) 2, [bm_dr (bm_nx (bm_nx (bm_nx x))) 3 + 1, bm_dr (bm_nx (bm_nx (bm_nx (bm_nx x)))) 3 + 1, bm_dr (bm_nx (bm_nx (bm_nx (bm_nx (bm_nx x))))) 3 + 1]) else (4, bm_dr x (bm_nn (st_X S)), bm_dr (bm_nx x) 4, bm_dr (bm_nx (bm_nx x)) 2, [])))) w' → Q w') : bw_rv E (d + 11) mX12_drawsForm [.ref 50, .int (bw_b f)] w Q := by
  have h6 := hw.2.1.1
  refine wfX12_drawsForm ?_
  rw [show gw_i w 50 34 = nI (bm_nn (st_X S)) from h.2.1.1]
  refine ⟨bm_mne (by omega) (by omega), by decide, by decide, ?_⟩
  generalize e1 : sw_l w 50 43 (((gw_l w 50 43) * 6364136223846793005) + 1442695040888963407) = w1
  generalize e2 : sw_l w1 50 43 (((gw_l w1 50 43) * 6364136223846793005) + 1442695040888963407) = w2
  generalize e3 : sw_l w2 50 43 (((gw_l w2 50 43) * 6364136223846793005) + 1442695040888963407) = w3
  have x1 : gw_l w1 50 43 = bm_nx x := by rw [← e1, gs_ll, if_pos ⟨rfl, rfl⟩, hx]; rfl
  have x2 : gw_l w2 50 43 = bm_nx (bm_nx x) := by rw [← e2, gs_ll, if_pos ⟨rfl, rfl⟩, x1]; rfl
  have x3 : gw_l w3 50 43 = bm_nx (bm_nx (bm_nx x)) := by rw [← e3, gs_ll, if_pos ⟨rfl, rfl⟩, x2]; rfl
  have f3 : by_fr [] [43] w w3 := by rw [← e3, ← e2, ← e1]; exact (((by_fr.rf _ _ _).s5l (by decide)).s5l (by decide)).s5l (by decide)
  rw [yv_draw hx (by omega) (by omega), show vX12_draw w1 4 = nI (bm_dr (bm_nx x) 4) from yv_draw (m := 4) x1 (by decide) (by decide), show vX12_draw w2 2 = nI (bm_dr (bm_nx (bm_nx x)) 2) from yv_draw (m := 2) x2 (by decide) (by decide)]
  cases f with
  | false =>
    have hg : bw_rv E (d + 10) mX12_tryOne [.ref 50, .int 4, .int (nI (bm_dr x (bm_nn (st_X S)))), .int (nI (bm_dr (bm_nx x) 4)), .int (nI (bm_dr (bm_nx (bm_nx x)) 2)), .long 0] w3 Q := by
      refine ys_try (d := d) (s := 4) (u := []) hw (by_S43 h f3) (by decide) bm_ok_nil (fun z => absurd z (by decide)) (fun w' f' g' => ?_)
      exact hq w' ((f3.up (by decide) (by decide)).tr (f'.up (by decide) (by decide))) (by rw [f'.l5 (by decide)]; exact x3) g'
    exact wfX12_drawsForm_28 (br_f (by decide) (br_t rfl (br_t rfl ⟨Q, hg, fun _ h => h⟩)))
  | true =>
    generalize e4 : sw_l w3 50 43 (((gw_l w3 50 43) * 6364136223846793005) + 1442695040888963407) = w4
    generalize e5 : sw_l w4 50 43 (((gw_l w4 50 43) * 6364136223846793005) + 1442695040888963407) = w5
    generalize e6 : sw_l w5 50 43 (((gw_l w5 50 43) * 6364136223846793005) + 1442695040888963407) = w6
    have x4 : gw_l w4 50 43 = bm_nx (bm_nx (bm_nx (bm_nx x))) := by rw [← e4, gs_ll, if_pos ⟨rfl, rfl⟩, x3]; rfl
    have x5 : gw_l w5 50 43 = bm_nx (bm_nx (bm_nx (bm_nx (bm_nx x)))) := by rw [← e5, gs_ll, if_pos ⟨rfl, rfl⟩, x4]; rfl
    have x6 : gw_l w6 50 43 = bm_nx (bm_nx (bm_nx (bm_nx (bm_nx (bm_nx x))))) := by rw [← e6, gs_ll, if_pos ⟨rfl, rfl⟩, x5]; rfl
    have f6 : by_fr [] [43] w w6 := by rw [← e6, ← e5, ← e4]; exact ((f3.s5l (by decide)).s5l (by decide)).s5l (by decide)
    have l1 := bm_dr_lt (x := bm_nx (bm_nx (bm_nx x))) (m := 3) (by decide)
    have l2 := bm_dr_lt (x := bm_nx (bm_nx (bm_nx (bm_nx x)))) (m := 3) (by decide)
    have l3 := bm_dr_lt (x := bm_nx (bm_nx (bm_nx (bm_nx (bm_nx x))))) (m := 3) (by decide)
    have st : ∀ (u : List Nat) (k : Nat), k < 3 → (27 : Int64) * by_w u + (nI k).toInt64 + 1 = by_w (u ++ [k + 1]) := fun u k hk => by
      rw [by_w_add, nI_l (by omega)]
      show lN 27 * lN (bm_27 u) + lN k + 1 = _
      rw [lN_mul, lN_add, lN_1]; congr 1
    have hg : bw_rv E (d + 10) mX12_tryOne [.ref 50, .int 3, .int (nI (bm_dr x (bm_nn (st_X S)))), .int (nI (bm_dr (bm_nx x) 4)), .int (nI (bm_dr (bm_nx (bm_nx x)) 2)), .long (by_w [bm_dr (bm_nx (bm_nx (bm_nx x))) 3 + 1, bm_dr (bm_nx (bm_nx (bm_nx (bm_nx x)))) 3 + 1, bm_dr (bm_nx (bm_nx (bm_nx (bm_nx (bm_nx x))))) 3 + 1])] w6 Q := by
      refine ys_try (d := d) (s := 3) (u := [bm_dr (bm_nx (bm_nx (bm_nx x))) 3 + 1, bm_dr (bm_nx (bm_nx (bm_nx (bm_nx x)))) 3 + 1, bm_dr (bm_nx (bm_nx (bm_nx (bm_nx (bm_nx x))))) 3 + 1]) hw (by_S43 h f6) (by decide) bm_w3_ok (fun _ => rfl) (fun w' f' g' => ?_)
      exact hq w' ((f6.up (by decide) (by decide)).tr (f'.up (by decide) (by decide))) (by rw [f'.l5 (by decide)]; exact x6) g'
    refine wfX12_drawsForm_28 (br_f (by decide) (br_f (by decide) ⟨by decide, ?_⟩))
    rw [e4, show vX12_draw w3 3 = nI (bm_dr (bm_nx (bm_nx (bm_nx x))) 3) from yv_draw (m := 3) x3 (by decide) (by decide), show (0 : Int64) = by_w [] from rfl, st [] _ l1]
    refine wfX12_drawsForm_28 (br_f (by decide) (br_f (by decide) ⟨by decide, ?_⟩))
    rw [e5, show vX12_draw w4 3 = nI (bm_dr (bm_nx (bm_nx (bm_nx (bm_nx x)))) 3) from yv_draw (m := 3) x4 (by decide) (by decide), st _ _ l2]
    refine wfX12_drawsForm_28 (br_f (by decide) (br_f (by decide) ⟨by decide, ?_⟩))
    rw [e6, show vX12_draw w5 3 = nI (bm_dr (bm_nx (bm_nx (bm_nx (bm_nx (bm_nx x))))) 3) from yv_draw (m := 3) x5 (by decide) (by decide), st _ _ l3]
    exact wfX12_drawsForm_28 (br_t (by decide) (br_f (by decide) ⟨Q, hg, fun _ h => h⟩))
theorem ys_way {Q : bw_W → Prop} {x : Int64} (hw : bm_wfS K S) (h : by_S S w) (hn : bm_nn (st_X S) ≠ 0) (hx : gw_l w 50 43 = x) (hq : ∀ w', by_fr by_al by_wyf w w' → gw_l w' 50 43 = (bm_way (bm_nn (st_X S)) x).2 → by_S (st_act S false (br_stp (st_X S) (st_N S) (bm_way (bm_nn (st_X S)) x).1)) w' → Q w') : bw_rv E (d + 12) mX12_drawWay [.ref 50] w Q := by
  have h6 := hw.2.1.1
  have l8 := bm_dr_lt (x := x) (m := 8) (by decide)
  have i4 := nI_leI (a := 4) (b := bm_dr x 8) (by decide) (by omega)
  have j4 := nI_eq (a := bm_dr x 8) (b := 4) (by omega) (by decide)
  have j5 := nI_eq (a := bm_dr x 8) (b := 5) (by omega) (by decide)
  have j6 := nI_eq (a := bm_dr x 8) (b := 6) (by omega) (by decide)
  unfold bm_way at hq
  refine wfX12_drawWay ?_
  rw [show gw_i w 50 34 = nI (bm_nn (st_X S)) from h.2.1.1, show vX12_draw w 8 = nI (bm_dr x 8) from yv_draw (m := 8) hx (by decide) (by decide)]
  generalize e1 : sw_l w 50 43 (((gw_l w 50 43) * 6364136223846793005) + 1442695040888963407) = w1
  have x1 : gw_l w1 50 43 = bm_nx x := by rw [← e1, gs_ll, if_pos ⟨rfl, rfl⟩, hx]; rfl
  have f1 : by_fr [] [43] w w1 := by rw [← e1]; exact (by_fr.rf _ _ _).s5l (by decide)
  generalize e2 : sw_l w1 50 43 (((gw_l w1 50 43) * 6364136223846793005) + 1442695040888963407) = w2
  have x2 : gw_l w2 50 43 = bm_nx (bm_nx x) := by rw [← e2, gs_ll, if_pos ⟨rfl, rfl⟩, x1]; rfl
  have f2 : by_fr [] [43] w w2 := by rw [← e2]; exact f1.s5l (by decide)
  refine ⟨by decide, ?_⟩
  by_cases c4 : bm_dr x 8 < 4
  · rw [if_pos c4] at hq
    generalize e3 : sw_l w2 50 43 (((gw_l w2 50 43) * 6364136223846793005) + 1442695040888963407) = w3
    generalize e4 : sw_l w3 50 43 (((gw_l w3 50 43) * 6364136223846793005) + 1442695040888963407) = w4
    have x3 : gw_l w3 50 43 = bm_nx (bm_nx (bm_nx x)) := by rw [← e3, gs_ll, if_pos ⟨rfl, rfl⟩, x2]; rfl
    have x4 : gw_l w4 50 43 = bm_nx (bm_nx (bm_nx (bm_nx x))) := by rw [← e4, gs_ll, if_pos ⟨rfl, rfl⟩, x3]; rfl
    have f4 : by_fr [] [43] w w4 := by rw [← e4, ← e3]; exact (f2.s5l (by decide)).s5l (by decide)
    rw [show vX12_draw w1 3 = nI (bm_dr (bm_nx x) 3) from yv_draw (m := 3) x1 (by decide) (by decide), yv_draw x2 (by omega) (by omega), show vX12_draw w3 4 = nI (bm_dr (bm_nx (bm_nx (bm_nx x))) 4) from yv_draw (m := 4) x3 (by decide) (by decide)]
    refine br_f (fun z => absurd (i4.mp z) (by omega)) ⟨by decide, bm_mne (by omega) (by omega), by decide, Q, ys_try (d := d + 1) (s := 0) (u := []) hw (by_S43 h f4) (by decide) bm_ok_nil (fun z => absurd z (by decide)) (fun w' f' g' => ?_), fun _ h => h⟩
    exact hq w' ((f4.up (by decide) (by decide)).tr (f'.up (by decide) (by decide))) (by rw [f'.l5 (by decide)]; exact x4) g'
  rw [if_neg c4] at hq
  refine br_t (i4.mpr (by omega)) ?_
  by_cases d4 : bm_dr x 8 = 4
  · rw [if_pos d4] at hq
    rw [show vX12_draw w1 3 = nI (bm_dr (bm_nx x) 3) from yv_draw (m := 3) x1 (by decide) (by decide)]
    refine br_nf (j4.mpr d4) ⟨by decide, Q, ys_try (d := d + 1) (s := 1) (u := []) hw (by_S43 h f2) (by decide) bm_ok_nil (fun z => absurd z (by decide)) (fun w' f' g' => ?_), fun _ h => h⟩
    exact hq w' ((f2.up (by decide) (by decide)).tr (f'.up (by decide) (by decide))) (by rw [f'.l5 (by decide)]; exact x2) g'
  rw [if_neg d4] at hq
  refine br_nt (fun z => d4 (j4.mp z)) ?_
  by_cases d5 : bm_dr x 8 = 5
  · rw [if_pos d5] at hq
    rw [show vX12_draw w1 2 = nI (bm_dr (bm_nx x) 2) from yv_draw (m := 2) x1 (by decide) (by decide)]
    refine br_nf (j5.mpr d5) ⟨by decide, Q, ys_try (d := d + 1) (s := 2) (u := []) hw (by_S43 h f2) (by decide) bm_ok_nil (fun z => absurd z (by decide)) (fun w' f' g' => ?_), fun _ h => h⟩
    exact hq w' ((f2.up (by decide) (by decide)).tr (f'.up (by decide) (by decide))) (by rw [f'.l5 (by decide)]; exact x2) g'
  rw [if_neg d5] at hq
  refine br_nt (fun z => d5 (j5.mp z)) ?_
  by_cases d6 : bm_dr x 8 = 6
  · rw [if_pos d6] at hq
    refine br_nf (j6.mpr d6) ⟨Q, ys_drawsForm (d := d) (f := true) hw (by_S43 h f1) hn x1 (fun w' f' g' k' => ?_), fun _ h => h⟩
    exact hq w' ((f1.up (by decide) (by decide)).tr f') g' k'
  · rw [if_neg d6] at hq
    refine br_nt (fun z => d6 (j6.mp z)) ⟨Q, ys_drawsForm (d := d) (f := false) hw (by_S43 h f1) hn x1 (fun w' f' g' k' => ?_), fun _ h => h⟩
    exact hq w' ((f1.up (by decide) (by decide)).tr f') g' k'
theorem qm_ways {Q : Int32 → bw_W → Prop} {a0 : Int32} {x : Int64} (hw : bm_wfS K S) (h : by_S S w) (hq : ∀ w', by_fr by_al by_wyf w w' → by_S (st_wayz S a0 x) w' → Q (br_ways S a0 x) w') : bw_ri E (d + 13) mX12_ways [.ref 50, .int a0, .long x] w Q := by
  unfold br_ways st_wayz at hq
  refine wfX12_ways ?_
  rw [by_H0 h.2.1 hw.2.1, bm_1lt]
  by_cases hn : bm_nn (st_X S) = 0
  · rw [if_pos hn] at hq
    rw [if_pos hn] at hq
    exact br_nt (fun z => z hn) (hq w (by_fr.rf _ _ _) h)
  rw [if_neg hn] at hq
  rw [if_neg hn] at hq
  refine br_nf hn ?_
  cases e : bm_wn a0 with
  | none => rw [e] at hq; exact br_f (fun z => z rfl) (hq w (by_fr.rf _ _ _) h)
  | some n =>
    rw [e] at hq
    simp only at hq
    obtain ⟨n1, n40, rfl⟩ := bm_wn_some e
    have key : ∀ (j i : Nat) (y : Int64) (T : bm_S) (K' : Nat) (w' : bw_W), i + j = n → st_X T = st_X S → st_ways n x S = st_ways j y T → bm_wfS K' T → by_S T w' → gw_l w' 50 43 = y → by_fr by_al by_wyf w w' → bw_G E (d + 13) mX12_ways 27 [some (.ref 50), some (.int (nI n)), some (.long x), none, some (.int (nI i))] [] w' (bw_qi Q) := by
      intro j
      induction j with
      | zero =>
        intro i y T K' w' hij hXT hgo hwT hT hy f'
        have hgo' : st_ways n x S = T := hgo
        refine wfX12_ways_27 (br_t (nI_le (by omega) (by omega)) ⟨Q, ys_many (d := d + 5) hT.2.1 (by_N_iff.mpr hT.2.2.1.1) hwT.2.2.1.1 hwT.2.1 (fun w'' f'' => ?_), fun _ _ h => h⟩)
        rw [hgo'] at hq
        rw [hXT]
        exact hq w'' (f'.tr (f''.up (by decide) (by decide))) (by_S71 hT f'')
      | succ j ih =>
        intro i y T K' w' hij hXT hgo hwT hT hy f'
        have hn' : bm_nn (st_X T) ≠ 0 := by rw [hXT]; exact hn
        rw [st_ways] at hgo
        have ok := bm_way_ok (bm_nn (st_X T)) y
        refine wfX12_ways_27 (br_f (nI_ge (by omega) (by omega)) ⟨fun w6 => by_fr by_al by_wyf w' w6 ∧ gw_l w6 50 43 = (bm_way (bm_nn (st_X T)) y).2 ∧ by_S (st_act T false (br_stp (st_X T) (st_N T) (bm_way (bm_nn (st_X T)) y).1)) w6, ys_way (d := d) hwT hT hn' hy (fun w'' f g k => ⟨f, g, k⟩), ?_⟩)
        rintro w6 ⟨f6, g6, h6⟩
        rw [nI_1]
        exact ih (i + 1) _ _ (K' + 1) w6 (by omega) (by rw [st_act_X]; exact hXT) hgo (bm_wfS_act ok.1 ok.2 hwT) h6 g6 (f'.tr f6)
    refine br_t (by simp) (key n 0 x S K (sw_l w 50 43 x) (by omega) rfl rfl hw (by_S43 h ((by_fr.rf _ _ _).s5l (by decide))) (by rw [gs_ll, if_pos ⟨rfl, rfl⟩]) ((by_fr.rf _ _ _).s5l (by decide)))
end WAYS
