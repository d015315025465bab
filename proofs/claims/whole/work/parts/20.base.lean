/-! numbers -/
theorem bm_l63 {a : Nat} (h : a < 2 ^ 63) : (lN a).toInt = (a : Int) := lg_ofNat_toInt h
theorem bm_leq {a b : Nat} (ha : a < 2 ^ 63) (hb : b < 2 ^ 63) : lN a = lN b ↔ a = b := by
  rw [← Int64.toInt_inj, bm_l63 ha, bm_l63 hb]; omega
theorem bm_lle {a b : Nat} (ha : a < 2 ^ 63) (hb : b < 2 ^ 63) : lN a ≤ lN b ↔ a ≤ b := by
  rw [Int64.le_iff_toInt_le, bm_l63 ha, bm_l63 hb]; omega
theorem bm_l0 {a : Nat} (ha : a < 2 ^ 63) : lN a = 0 ↔ a = 0 := bm_leq ha (by decide)
theorem bm_ldiv {a b : Nat} (ha : a < 2 ^ 63) (h0 : 0 < b) (hb : b < 2 ^ 31) : lN a / lN b = lN (a / b) := by
  have hdv : a / b < 2 ^ 63 := Nat.lt_of_le_of_lt (Nat.div_le_self a b) ha
  rw [← Int64.toInt_inj, Int64.toInt_div, bm_l63 ha, bm_l63 (by omega), bm_l63 hdv]
  rw [← Int.ofNat_tdiv]
  have hn : (0 : Int) ≤ ((a / b : Nat) : Int) := Int.natCast_nonneg _
  exact Int.bmod_eq_of_le (by omega) (by omega)
theorem bm_lrem {a b : Nat} (ha : a < 2 ^ 63) (h0 : 0 < b) (hb : b < 2 ^ 31) : lN a - lN a / lN b * lN b = lN (a % b) := by
  rw [bm_ldiv ha h0 hb, lN_mul, lN_sub (Nat.div_mul_le_self a b)]
  congr 1
  have := Nat.div_add_mod a b
  rw [Nat.mul_comm] at this
  omega
theorem bm_in {k n : Nat} (h : k < n) (hn : n < 2 ^ 31) : vp_in (nI k) n := vp_in_nI h hn
/-! words: their letters, 1 to 26 -/
def bm_ok (u : List Nat) : Prop := u.length ≤ 8 ∧ ∀ x ∈ u, 1 ≤ x ∧ x ≤ 26
def bm_rv : List Nat → Nat
  | [] => 0
  | x :: r => x + 27 * bm_rv r
/-- a word as a number of 27s -/
def bm_27 (u : List Nat) : Nat := bm_rv u.reverse
/-- a word as bytes in a long -/
def bm_pk : List Nat → Nat
  | [] => 0
  | x :: u => (96 + x) + 256 * bm_pk u
theorem bm_rv_lt : ∀ r : List Nat, (∀ x ∈ r, 1 ≤ x ∧ x ≤ 26) → bm_rv r < 27 ^ r.length
  | [], _ => by decide
  | x :: r, h => by
    have h1 := h x List.mem_cons_self
    have h2 := bm_rv_lt r (fun y hy => h y (List.mem_cons_of_mem _ hy))
    rw [List.length_cons, Nat.pow_succ, bm_rv]
    omega
theorem bm_27_lt {u : List Nat} (h : bm_ok u) : bm_27 u < 2 ^ 39 := by
  have h1 := bm_rv_lt u.reverse (fun x hx => h.2 x (List.mem_reverse.mp hx))
  rw [List.length_reverse] at h1
  have h2 : 27 ^ u.length ≤ 27 ^ 8 := Nat.pow_le_pow_right (by decide) h.1
  have h3 : 27 ^ 8 < 2 ^ 39 := by decide
  unfold bm_27
  omega
theorem bm_rv_inj : ∀ {r t : List Nat}, (∀ x ∈ r, 1 ≤ x ∧ x ≤ 26) → (∀ x ∈ t, 1 ≤ x ∧ x ≤ 26) → bm_rv r = bm_rv t → r = t
  | [], [], _, _, _ => rfl
  | [], y :: t, _, h2, e => by
    have := h2 y List.mem_cons_self
    simp only [bm_rv] at e
    omega
  | x :: r, [], h1, _, e => by
    have := h1 x List.mem_cons_self
    simp only [bm_rv] at e
    omega
  | x :: r, y :: t, h1, h2, e => by
    have a := h1 x List.mem_cons_self
    have b := h2 y List.mem_cons_self
    simp only [bm_rv] at e
    have e1 : x = y := by omega
    have e2 : bm_rv r = bm_rv t := by omega
    rw [e1, bm_rv_inj (fun z hz => h1 z (List.mem_cons_of_mem _ hz)) (fun z hz => h2 z (List.mem_cons_of_mem _ hz)) e2]
theorem bm_27_inj {u v : List Nat} (hu : bm_ok u) (hv : bm_ok v) (e : bm_27 u = bm_27 v) : u = v := by
  have := bm_rv_inj (fun x hx => hu.2 x (List.mem_reverse.mp hx)) (fun x hx => hv.2 x (List.mem_reverse.mp hx)) e
  exact List.reverse_inj.mp this
theorem bm_pk_lt2 : ∀ u : List Nat, (∀ x ∈ u, 1 ≤ x ∧ x ≤ 26) → 2 * bm_pk u < 256 ^ u.length
  | [], _ => by decide
  | x :: u, h => by
    have h1 := h x List.mem_cons_self
    have h2 := bm_pk_lt2 u (fun y hy => h y (List.mem_cons_of_mem _ hy))
    rw [List.length_cons, Nat.pow_succ, bm_pk]
    have h3 : 256 ^ u.length = 1 ∨ 256 ^ u.length % 2 = 0 := by
      cases hl : u.length with
      | zero => left; rfl
      | succ n => right; rw [Nat.pow_succ]; omega
    rcases h3 with h3 | h3 <;> omega
theorem bm_pk_lt {u : List Nat} (h : bm_ok u) : bm_pk u < 2 ^ 63 := by
  have h1 := bm_pk_lt2 u h.2
  have h2 : 256 ^ u.length ≤ 256 ^ 8 := Nat.pow_le_pow_right (by decide) h.1
  have h3 : 256 ^ 8 = 2 ^ 64 := by decide
  omega
theorem bm_pk_inj : ∀ {r t : List Nat}, (∀ x ∈ r, 1 ≤ x ∧ x ≤ 26) → (∀ x ∈ t, 1 ≤ x ∧ x ≤ 26) → bm_pk r = bm_pk t → r = t
  | [], [], _, _, _ => rfl
  | [], y :: t, _, h2, e => by
    have := h2 y List.mem_cons_self
    simp only [bm_pk] at e
    omega
  | x :: r, [], h1, _, e => by
    have := h1 x List.mem_cons_self
    simp only [bm_pk] at e
    omega
  | x :: r, y :: t, h1, h2, e => by
    have a := h1 x List.mem_cons_self
    have b := h2 y List.mem_cons_self
    simp only [bm_pk] at e
    have e1 : x = y := by omega
    have e2 : bm_pk r = bm_pk t := by omega
    rw [e1, bm_pk_inj (fun z hz => h1 z (List.mem_cons_of_mem _ hz)) (fun z hz => h2 z (List.mem_cons_of_mem _ hz)) e2]
theorem bm_pk0 {u : List Nat} (h : bm_ok u) : bm_pk u = 0 ↔ u = [] := by
  constructor
  · intro e
    exact bm_pk_inj (t := []) h.2 (by simp) e
  · intro e; rw [e]; rfl
theorem bm_270 {u : List Nat} (h : bm_ok u) : bm_27 u = 0 ↔ u = [] := by
  constructor
  · intro e
    exact bm_27_inj (v := []) h ⟨by simp, by simp⟩ e
  · intro e; rw [e]; rfl
/-- a word as the class holds it; as the reference does -/
def bx_w (u : List Nat) : Int64 := lN (bm_pk u)
def by_w (u : List Nat) : Int64 := lN (bm_27 u)
theorem bx_w_eq {u v : List Nat} (hu : bm_ok u) (hv : bm_ok v) : bx_w u = bx_w v ↔ u = v := by
  unfold bx_w
  rw [bm_leq (bm_pk_lt hu) (bm_pk_lt hv)]
  exact ⟨fun e => bm_pk_inj hu.2 hv.2 e, fun e => by rw [e]⟩
theorem by_w_eq {u v : List Nat} (hu : bm_ok u) (hv : bm_ok v) : by_w u = by_w v ↔ u = v := by
  unfold by_w
  have a := bm_27_lt hu
  have b := bm_27_lt hv
  rw [bm_leq (by omega) (by omega)]
  exact ⟨fun e => bm_27_inj hu hv e, fun e => by rw [e]⟩
theorem bm_ok_nil : bm_ok [] := ⟨by simp, by simp⟩
theorem bx_w_nil : bx_w [] = 0 := rfl
theorem by_w_nil : by_w [] = 0 := rfl
theorem bx_w0 {u : List Nat} (hu : bm_ok u) : bx_w u = 0 ↔ u = [] := bx_w_eq hu bm_ok_nil
theorem by_w0 {u : List Nat} (hu : bm_ok u) : by_w u = 0 ↔ u = [] := by_w_eq hu bm_ok_nil
/-- the i-th byte of a packed word -/
theorem bm_pk_at : ∀ (u : List Nat) (i : Nat), (∀ x ∈ u, 1 ≤ x ∧ x ≤ 26) → bm_pk u / 256 ^ i % 256 = if i < u.length then 96 + u.getD i 0 else 0
  | [], i, _ => by simp [bm_pk]
  | x :: u, 0, h => by
    have := h x List.mem_cons_self
    simp only [bm_pk, Nat.pow_zero, Nat.div_one, List.length_cons, Nat.zero_lt_succ, if_true, List.getD_cons_zero]
    omega
  | x :: u, i + 1, h => by
    have := h x List.mem_cons_self
    have ih := bm_pk_at u i (fun y hy => h y (List.mem_cons_of_mem _ hy))
    rw [Nat.pow_succ, Nat.mul_comm, ← Nat.div_div_eq_div_mul, bm_pk]
    have e : (96 + x + 256 * bm_pk u) / 256 = bm_pk u := by omega
    rw [e, ih]
    simp
theorem bm_shr {n k : Nat} (hn : n < 2 ^ 63) (hk : k < 64) : ((lN n).toUInt64 >>> (UInt64.ofNat k)).toInt64 = lN (n / 2 ^ k) := by
  have hd : n / 2 ^ k < 2 ^ 63 := Nat.lt_of_le_of_lt (Nat.div_le_self _ _) hn
  have e : (lN n).toUInt64 = UInt64.ofNat n := rfl
  rw [e]
  have e2 : UInt64.ofNat n >>> UInt64.ofNat k = UInt64.ofNat (n / 2 ^ k) := by
    apply UInt64.toNat_inj.mp
    rw [UInt64.toNat_shiftRight, UInt64.toNat_ofNat', UInt64.toNat_ofNat', UInt64.toNat_ofNat']
    rw [Nat.mod_eq_of_lt (by omega : n < 2 ^ 64), Nat.mod_eq_of_lt (by omega : k < 2 ^ 64), Nat.mod_eq_of_lt (by omega : n / 2 ^ k < 2 ^ 64), Nat.mod_eq_of_lt hk, Nat.shiftRight_eq_div_pow]
  rw [e2]
  rfl
