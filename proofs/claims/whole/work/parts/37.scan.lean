/-! scanning a tape: runs of blanks, letters, digits -/
theorem sw_ii {w : bw_W} {c k : Nat} {a b : Int32} : sw_i (sw_i w c k a) c k b = sw_i w c k b := by
  unfold sw_i cw_i
  refine Prod.ext (funext fun c' => ?_) rfl
  by_cases h : c' = c
  · subst h
    simp only [if_true]
    funext j
    by_cases h2 : j = k <;> simp [h2]
  · simp [h]
theorem sw_self {w : bw_W} {c k : Nat} {a : Int32} (h : gw_i w c k = a) : sw_i w c k a = w := by
  subst h
  unfold sw_i cw_i gw_i
  refine Prod.ext (funext fun c' => ?_) rfl
  by_cases h : c' = c
  · subst h
    simp only [if_true]
    funext j
    by_cases h2 : j = k <;> simp [h2]
  · simp [h]
def bm_b (t : List Nat) (i : Nat) : Nat := t.getD i 0
theorem bm_b_out {t : List Nat} {i : Nat} (h : t.length ≤ i) : bm_b t i = 0 := by
  unfold bm_b
  rw [List.getD_eq_getElem?_getD, List.getElem?_eq_none h]; rfl
theorem bm_b_in {t : List Nat} {i : Nat} (ht : bm_wfT t) (h : i < t.length) : 1 ≤ bm_b t i ∧ bm_b t i < 256 := by
  unfold bm_b
  rw [List.getD_eq_getElem?_getD, List.getElem?_eq_getElem h]
  exact ht.2 _ (List.getElem_mem h)
theorem bm_b_lt {t : List Nat} (i : Nat) (ht : bm_wfT t) : bm_b t i < 256 := by
  by_cases h : i < t.length
  · exact (bm_b_in ht h).2
  · rw [bm_b_out (by omega)]; decide
def bm_rn (P : Nat → Bool) (t : List Nat) : Nat → Nat → Nat
  | 0, p => p
  | n + 1, p => if P (bm_b t p) then bm_rn P t n (p + 1) else p
/-- where a run that begins at p ends -/
def bm_e (P : Nat → Bool) (t : List Nat) (p : Nat) : Nat := bm_rn P t (t.length - p) p
section SCAN
variable {P : Nat → Bool} {t : List Nat} {p : Nat}
theorem bm_e_in (h0 : P 0 = false) (h : P (bm_b t p) = true) : p < t.length := by
  by_cases c : p < t.length
  · exact c
  · rw [bm_b_out (by omega), h0] at h; cases h
theorem bm_e_t (h0 : P 0 = false) (h : P (bm_b t p) = true) : bm_e P t p = bm_e P t (p + 1) := by
  have := bm_e_in h0 h
  unfold bm_e
  rw [show t.length - p = (t.length - (p + 1)) + 1 by omega, bm_rn, if_pos h]
theorem bm_e_f (h : P (bm_b t p) = false) : bm_e P t p = p := by
  unfold bm_e
  cases t.length - p with
  | zero => rfl
  | succ n => rw [bm_rn, if_neg (by rw [h]; decide)]
theorem bm_e_pr (h0 : P 0 = false) : ∀ n p, p + n = t.length → p ≤ bm_e P t p ∧ bm_e P t p ≤ t.length ∧ P (bm_b t (bm_e P t p)) = false ∧ ∀ i, p ≤ i → i < bm_e P t p → P (bm_b t i) = true
  | 0, p, h => by
    have e : P (bm_b t p) = false := by rw [bm_b_out (by omega)]; exact h0
    rw [bm_e_f e]
    exact ⟨Nat.le_refl _, by omega, e, fun i h1 h2 => by omega⟩
  | n + 1, p, h => by
    cases e : P (bm_b t p) with
    | false =>
      rw [bm_e_f e]
      exact ⟨Nat.le_refl _, by omega, e, fun i h1 h2 => by omega⟩
    | true =>
      obtain ⟨h1, h2, h3, h4⟩ := bm_e_pr h0 n (p + 1) (by omega)
      rw [bm_e_t h0 e]
      refine ⟨by omega, h2, h3, fun i g1 g2 => ?_⟩
      by_cases c : i = p
      · subst c; exact e
      · exact h4 i (by omega) g2
theorem bm_e_ge (h0 : P 0 = false) (h : p ≤ t.length) : p ≤ bm_e P t p := (bm_e_pr h0 (t.length - p) p (by omega)).1
theorem bm_e_le (h0 : P 0 = false) (h : p ≤ t.length) : bm_e P t p ≤ t.length := (bm_e_pr h0 (t.length - p) p (by omega)).2.1
theorem bm_e_st (h0 : P 0 = false) (h : p ≤ t.length) : P (bm_b t (bm_e P t p)) = false := (bm_e_pr h0 (t.length - p) p (by omega)).2.2.1
theorem bm_e_all (h0 : P 0 = false) (h : p ≤ t.length) {i : Nat} (h1 : p ≤ i) (h2 : i < bm_e P t p) : P (bm_b t i) = true := (bm_e_pr h0 (t.length - p) p (by omega)).2.2.2 i h1 h2
end SCAN
def bm_bl (x : Nat) : Bool := decide (x = 32)
def bm_lt (x : Nat) : Bool := decide (97 ≤ x ∧ x ≤ 122)
def bm_dg (x : Nat) : Bool := decide (48 ≤ x ∧ x ≤ 57)
abbrev bm_sk (t : List Nat) (p : Nat) : Nat := bm_e bm_bl t p
/-- n letters from q on, n digits from q on -/
def bm_ls (t : List Nat) (q : Nat) : Nat → List Nat
  | 0 => []
  | n + 1 => bm_ls t q n ++ [bm_b t (q + n) - 96]
def bm_dv (t : List Nat) (q : Nat) : Nat → Nat
  | 0 => 0
  | n + 1 => 10 * bm_dv t q n + (bm_b t (q + n) - 48)
theorem bm_ls_len (t : List Nat) (q : Nat) : ∀ n, (bm_ls t q n).length = n
  | 0 => rfl
  | n + 1 => by rw [bm_ls, List.length_append, bm_ls_len t q n]; rfl
theorem bm_ls_at (t : List Nat) (q : Nat) : ∀ n i, i < n → (bm_ls t q n).getD i 0 = bm_b t (q + i) - 96
  | 0, _, h => by omega
  | n + 1, i, h => by
    rw [bm_ls, bm_gd, bm_ls_len]
    by_cases c : i < n
    · rw [if_pos c, bm_ls_at t q n i c]
    · have e : i = n := by omega
      rw [if_neg c, if_pos e, e]
/-- a word, a number that begins at q; where what follows begins -/
def bp_word (t : List Nat) (q : Nat) : Option (List Nat × Nat) := if q < bm_e bm_lt t q ∧ bm_e bm_lt t q ≤ q + 8 then some (bm_ls t q (bm_e bm_lt t q - q), bm_sk t (bm_e bm_lt t q)) else none
def bp_num (t : List Nat) (q m hi : Nat) : Option (Nat × Nat) := if q < bm_e bm_dg t q ∧ bm_e bm_dg t q ≤ q + m ∧ bm_dv t q (bm_e bm_dg t q - q) ≤ hi then some (bm_dv t q (bm_e bm_dg t q - q), bm_sk t (bm_e bm_dg t q)) else none
theorem bm_ls_ok {t : List Nat} {q : Nat} (hq : q ≤ t.length) : ∀ n, n ≤ bm_e bm_lt t q - q → ∀ x ∈ bm_ls t q n, 1 ≤ x ∧ x ≤ 26
  | 0, _, x, hx => by cases hx
  | n + 1, h, x, hx => by
    rw [bm_ls] at hx
    rcases List.mem_append.mp hx with g | g
    · exact bm_ls_ok hq n (by omega) x g
    · have e : x = bm_b t (q + n) - 96 := by simpa using g
      have := bm_e_all (P := bm_lt) rfl hq (i := q + n) (by omega) (by omega)
      have := of_decide_eq_true this
      omega
theorem bp_word_some {t : List Nat} {q q' : Nat} {u : List Nat} (hq : q ≤ t.length) (h : bp_word t q = some (u, q')) : bm_ok u ∧ u ≠ [] ∧ u = bm_ls t q u.length ∧ bm_e bm_lt t q = q + u.length ∧ q' = bm_sk t (q + u.length) ∧ q + u.length ≤ t.length ∧ q' ≤ t.length ∧ q < q' := by
  unfold bp_word at h
  split at h
  · rename_i c
    cases h
    have hle := bm_e_le (P := bm_lt) rfl hq
    rw [bm_ls_len]
    have e : q + (bm_e bm_lt t q - q) = bm_e bm_lt t q := by omega
    rw [e]
    have h2 := bm_e_le (P := bm_bl) rfl hle
    have h3 := bm_e_ge (P := bm_bl) rfl hle
    refine ⟨⟨by rw [bm_ls_len]; omega, bm_ls_ok hq _ (Nat.le_refl _)⟩, ?_, rfl, rfl, rfl, hle, h2, Nat.lt_of_lt_of_le c.1 h3⟩
    intro z
    have := congrArg List.length z
    rw [bm_ls_len] at this
    simp at this
    omega
  · cases h
theorem bp_num_some {t : List Nat} {q q' m hi v : Nat} (hq : q ≤ t.length) (h : bp_num t q m hi = some (v, q')) : v ≤ hi ∧ q' ≤ t.length ∧ q < q' := by
  unfold bp_num at h
  split at h
  · rename_i c
    cases h
    have hle := bm_e_le (P := bm_dg) rfl hq
    have h2 := bm_e_le (P := bm_bl) rfl hle
    have h3 := bm_e_ge (P := bm_bl) rfl hle
    exact ⟨c.2.2, h2, Nat.lt_of_lt_of_le c.1 h3⟩
  · cases h
theorem lN_or (a b : Nat) : lN a ||| lN b = lN (a ||| b) := by
  apply Int64.toBitVec_inj.mp
  show BitVec.ofNat 64 a ||| BitVec.ofNat 64 b = BitVec.ofNat 64 (a ||| b)
  rw [BitVec.ofNat_or]
theorem bm_pk_app : ∀ (u : List Nat) (x : Nat), bm_pk (u ++ [x]) = bm_pk u + (96 + x) * 256 ^ u.length
  | [], x => by simp [bm_pk]
  | y :: u, x => by
    rw [List.cons_append, bm_pk, bm_pk, bm_pk_app u x, List.length_cons, Nat.pow_succ, Nat.mul_add, ← Nat.add_assoc, ← Nat.mul_assoc (96 + x), Nat.mul_comm _ 256]
theorem bm_pk_lt8 {u : List Nat} (h : ∀ x ∈ u, 1 ≤ x ∧ x ≤ 26) : bm_pk u < 256 ^ u.length := by
  have := bm_pk_lt2 u h
  omega
theorem bm_shl {n k : Nat} {y : Int64} (hy : (y.toBitVec.smod 64).toNat = k) : lN n <<< y = lN (n * 2 ^ k) := by
  apply Int64.toBitVec_inj.mp
  apply BitVec.eq_of_toNat_eq
  show (BitVec.ofNat 64 n <<< (y.toBitVec.smod 64).toNat).toNat = (BitVec.ofNat 64 (n * 2 ^ k)).toNat
  rw [hy, BitVec.toNat_shiftLeft, BitVec.toNat_ofNat, BitVec.toNat_ofNat, Nat.shiftLeft_eq, Nat.mod_mul_mod]
theorem bm_shl8 {n : Nat} : ∀ j, j < 8 → lN n <<< ((nI (8 * j)).toInt64 &&& 63) = lN (n * 2 ^ (8 * j)) := by
  have h : ∀ j, j < 8 → (((nI (8 * j)).toInt64 &&& 63).toBitVec.smod 64).toNat = 8 * j := by decide
  exact fun j hj => bm_shl (h j hj)
/-- a letter more -/
theorem bx_w_add {u : List Nat} {x : Nat} (hu : ∀ y ∈ u, 1 ≤ y ∧ y ≤ 26) (h8 : u.length < 8) (hx : 1 ≤ x ∧ x ≤ 26) : bx_w u ||| ((nI (96 + x)).toInt64 <<< ((8 * nI u.length).toInt64 &&& 63)) = bx_w (u ++ [x]) := by
  unfold bx_w
  rw [nI_l (by omega), nl_8, pk_mul, bm_shl8 _ h8, lN_or, bm_pk_app]
  congr 1
  have e : 256 ^ u.length = 2 ^ (8 * u.length) := by rw [Nat.pow_mul]
  have hlt := bm_pk_lt8 hu
  rw [e] at hlt ⊢
  rw [Nat.or_comm, Nat.mul_comm (96 + x), ← Nat.two_pow_add_eq_or_of_lt hlt, Nat.add_comm]
theorem by_w_add {u : List Nat} {x : Nat} : by_w (u ++ [x]) = lN (27 * bm_27 u + x) := by
  unfold by_w bm_27
  rw [List.reverse_append]
  show lN (x + 27 * bm_rv u.reverse) = _
  rw [Nat.add_comm]
