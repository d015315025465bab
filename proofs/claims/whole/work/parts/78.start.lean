/-! the start: all cells hold 0 -/
def bv_w0 : bw_W := (fun _ _ => 0, fun _ _ => 0)
def st_0 : bm_S := ([], dd_X bd_0, (fun _ => [], fun _ => none, false), [], [], none, [], fun _ => 0)
theorem bm_wfS_0 : bm_wfS 0 st_0 := by
  refine ⟨bm_wfT_nil, ⟨Nat.zero_le _, Nat.zero_le _, fun i h => absurd h (Nat.not_lt_zero i), fun _ _ => bm_ok_nil, fun m h => absurd h (Nat.not_lt_zero m), fun _ => rfl⟩, ⟨⟨fun _ _ => bm_ok_nil, fun h n c _ z => by cases z⟩, fun _ _ _ => rfl⟩, ⟨Nat.le_refl _, fun a h => by cases h⟩, ⟨Nat.zero_le _, Nat.zero_le _, fun N h => by cases h⟩, fun p h => (by cases h), ⟨Nat.zero_le _, fun n h => absurd h (Nat.not_lt_zero n)⟩⟩
theorem bx_S_0 : bx_S st_0 bv_w0 := by
  refine ⟨⟨rfl, fun i h => absurd h (Nat.not_lt_zero i)⟩, ⟨rfl, rfl, fun i h => absurd h (Nat.not_lt_zero i), fun _ _ => ⟨rfl, rfl⟩, fun m h => absurd h (Nat.not_lt_zero m)⟩, rfl, ⟨fun _ _ => rfl, fun _ _ => rfl, rfl⟩, ⟨rfl, fun i _ h => absurd h (Nat.not_lt_zero i)⟩, ⟨rfl, fun j h => absurd h (Nat.not_lt_zero j)⟩, ⟨rfl, fun p h => by cases h⟩, ⟨rfl, fun n h => absurd h (Nat.not_lt_zero n)⟩, fun _ _ => rfl⟩
theorem by_0_0 : by_0 st_0 bv_w0 := ⟨⟨rfl, fun i h => absurd h (Nat.not_lt_zero i)⟩, ⟨rfl, rfl, fun i h => absurd h (Nat.not_lt_zero i), fun _ _ => rfl, fun m h => absurd h (Nat.not_lt_zero m)⟩, rfl, rfl, rfl, ⟨rfl, fun n h => absurd h (Nat.not_lt_zero n)⟩, fun _ _ => rfl, rfl, rfl, rfl, rfl⟩
theorem bv_0_0 : bv_J 0 bv_w0 := Or.inl ⟨st_0, bm_wfS_0, bx_S_0, by_0_0, fun _ _ => rfl⟩
/-! from the cells in the order of their making to the cells by number -/
def bv_pos (c : Nat) : Nat := if c ≤ 30 then c else if c ≤ 77 then c + 70 else if c ≤ 82 then 31 + 14 * (c - 78) else if c ≤ 87 then 32 + 14 * (c - 83) else 33 + 14 * ((c - 88) / 12) + (c - 88) % 12
theorem bv_pos_inj : ∀ i, i < 148 → ∀ j, j < 148 → bv_pos i = bv_pos j → i = j := by decide +kernel
theorem bv_pos_lt : ∀ i, i < 148 → bv_pos i < 148 := by decide +kernel
theorem vp_cell_ref {cA : ClassId} {n : Nat} {f g : Nat → Option Nat} (h : ∀ j, j < n → f j = g j) : vp_cell cA (n, .inr (.inr (.inr (.inr f)))) = vp_cell cA (n, .inr (.inr (.inr (.inr g)))) := by
  rw [vp_cell_q, vp_cell_q]
  unfold arrV
  congr 1
  congr 1
  funext j
  show va_rf (f j.val) = va_rf (g j.val)
  rw [h j.val j.isLt]
