/-! the heap behind the constructors holds the world of zeros -/
theorem bv_cell {E : bw_E} {str : Nat → Nat} : ∀ c, c < 148 → c ≠ 30 → ¬ (83 ≤ c ∧ c ≤ 87) → (bv_CS E)[bv_pos c]? = some (bw_ce (bv_E E str) bv_w0 c (bw_sh c))
  | 0, _, _, _ => bv_c0
  | 1, _, _, _ => bv_c1
  | 2, _, _, _ => bv_c2
  | 3, _, _, _ => bv_c3
  | 4, _, _, _ => bv_c4
  | 5, _, _, _ => bv_c5
  | 6, _, _, _ => bv_c6
  | 7, _, _, _ => bv_c7
  | 8, _, _, _ => bv_c8
  | 9, _, _, _ => bv_c9
  | 10, _, _, _ => bv_c10
  | 11, _, _, _ => bv_c11
  | 12, _, _, _ => bv_c12
  | 13, _, _, _ => bv_c13
  | 14, _, _, _ => bv_c14
  | 15, _, _, _ => bv_c15
  | 16, _, _, _ => bv_c16
  | 17, _, _, _ => bv_c17
  | 18, _, _, _ => bv_c18
  | 19, _, _, _ => bv_c19
  | 20, _, _, _ => bv_c20
  | 21, _, _, _ => bv_c21
  | 22, _, _, _ => bv_c22
  | 23, _, _, _ => bv_c23
  | 24, _, _, _ => bv_c24
  | 25, _, _, _ => bv_c25
  | 26, _, _, _ => bv_c26
  | 27, _, _, _ => bv_c27
  | 28, _, _, _ => bv_c28
  | 29, _, _, _ => bv_c29
  | 30, _, h, _ => absurd rfl h
  | 31, _, _, _ => bv_c31
  | 32, _, _, _ => bv_c32
  | 33, _, _, _ => bv_c33
  | 34, _, _, _ => bv_c34
  | 35, _, _, _ => bv_c35
  | 36, _, _, _ => bv_c36
  | 37, _, _, _ => bv_c37
  | 38, _, _, _ => bv_c38
  | 39, _, _, _ => bv_c39
  | 40, _, _, _ => bv_c40
  | 41, _, _, _ => bv_c41
  | 42, _, _, _ => bv_c42
  | 43, _, _, _ => bv_c43
  | 44, _, _, _ => bv_c44
  | 45, _, _, _ => bv_c45
  | 46, _, _, _ => bv_c46
  | 47, _, _, _ => bv_c47
  | 48, _, _, _ => bv_c48
  | 49, _, _, _ => bv_c49
  | 50, _, _, _ => bv_c50
  | 51, _, _, _ => bv_c51
  | 52, _, _, _ => bv_c52
  | 53, _, _, _ => bv_c53
  | 54, _, _, _ => bv_c54
  | 55, _, _, _ => bv_c55
  | 56, _, _, _ => bv_c56
  | 57, _, _, _ => bv_c57
  | 58, _, _, _ => bv_c58
  | 59, _, _, _ => bv_c59
  | 60, _, _, _ => bv_c60
  | 61, _, _, _ => bv_c61
  | 62, _, _, _ => bv_c62
  | 63, _, _, _ => bv_c63
  | 64, _, _, _ => bv_c64
  | 65, _, _, _ => bv_c65
  | 66, _, _, _ => bv_c66
  | 67, _, _, _ => bv_c67
  | 68, _, _, _ => bv_c68
  | 69, _, _, _ => bv_c69
  | 70, _, _, _ => bv_c70
  | 71, _, _, _ => bv_c71
  | 72, _, _, _ => bv_c72
  | 73, _, _, _ => bv_c73
  | 74, _, _, _ => bv_c74
  | 75, _, _, _ => bv_c75
  | 76, _, _, _ => bv_c76
  | 77, _, _, _ => bv_c77
  | 78, _, _, _ => bv_c78
  | 79, _, _, _ => bv_c79
  | 80, _, _, _ => bv_c80
  | 81, _, _, _ => bv_c81
  | 82, _, _, _ => bv_c82
  | 83, _, _, h => absurd (by decide) h
  | 84, _, _, h => absurd (by decide) h
  | 85, _, _, h => absurd (by decide) h
  | 86, _, _, h => absurd (by decide) h
  | 87, _, _, h => absurd (by decide) h
  | 88, _, _, _ => bv_c88
  | 89, _, _, _ => bv_c89
  | 90, _, _, _ => bv_c90
  | 91, _, _, _ => bv_c91
  | 92, _, _, _ => bv_c92
  | 93, _, _, _ => bv_c93
  | 94, _, _, _ => bv_c94
  | 95, _, _, _ => bv_c95
  | 96, _, _, _ => bv_c96
  | 97, _, _, _ => bv_c97
  | 98, _, _, _ => bv_c98
  | 99, _, _, _ => bv_c99
  | 100, _, _, _ => bv_c100
  | 101, _, _, _ => bv_c101
  | 102, _, _, _ => bv_c102
  | 103, _, _, _ => bv_c103
  | 104, _, _, _ => bv_c104
  | 105, _, _, _ => bv_c105
  | 106, _, _, _ => bv_c106
  | 107, _, _, _ => bv_c107
  | 108, _, _, _ => bv_c108
  | 109, _, _, _ => bv_c109
  | 110, _, _, _ => bv_c110
  | 111, _, _, _ => bv_c111
  | 112, _, _, _ => bv_c112
  | 113, _, _, _ => bv_c113
  | 114, _, _, _ => bv_c114
  | 115, _, _, _ => bv_c115
  | 116, _, _, _ => bv_c116
  | 117, _, _, _ => bv_c117
  | 118, _, _, _ => bv_c118
  | 119, _, _, _ => bv_c119
  | 120, _, _, _ => bv_c120
  | 121, _, _, _ => bv_c121
  | 122, _, _, _ => bv_c122
  | 123, _, _, _ => bv_c123
  | 124, _, _, _ => bv_c124
  | 125, _, _, _ => bv_c125
  | 126, _, _, _ => bv_c126
  | 127, _, _, _ => bv_c127
  | 128, _, _, _ => bv_c128
  | 129, _, _, _ => bv_c129
  | 130, _, _, _ => bv_c130
  | 131, _, _, _ => bv_c131
  | 132, _, _, _ => bv_c132
  | 133, _, _, _ => bv_c133
  | 134, _, _, _ => bv_c134
  | 135, _, _, _ => bv_c135
  | 136, _, _, _ => bv_c136
  | 137, _, _, _ => bv_c137
  | 138, _, _, _ => bv_c138
  | 139, _, _, _ => bv_c139
  | 140, _, _, _ => bv_c140
  | 141, _, _, _ => bv_c141
  | 142, _, _, _ => bv_c142
  | 143, _, _, _ => bv_c143
  | 144, _, _, _ => bv_c144
  | 145, _, _, _ => bv_c145
  | 146, _, _, _ => bv_c146
  | 147, _, _, _ => bv_c147
  | n + 148, h, _, _ => absurd h (by omega)
theorem bv_E1 {E : bw_E} {str : Nat → Nat} {c : Nat} (h : c < 148) : (bv_E E str).1 c = E.1 (bv_pos c) := if_pos h
theorem bv_rg5 {E : bw_E} {str : Nat → Nat} : ∀ j, j < 5 → bk_rg E 1 5 j = some ((bv_E E str).1 (bw_rf 30 j))
  | 0, _ => rfl
  | 1, _ => rfl
  | 2, _ => rfl
  | 3, _ => rfl
  | 4, _ => rfl
  | n + 5, h => absurd h (by omega)
theorem bv_rs0 {E : bw_E} {str : Nat → Nat} : ∀ j, j < 12 → bk_rf E (1 + (30 + 14 * 0 + 1)) 12 j = some ((bv_E E str).1 (bw_rf 83 j))
  | 0, _ => rfl
  | 1, _ => rfl
  | 2, _ => rfl
  | 3, _ => rfl
  | 4, _ => rfl
  | 5, _ => rfl
  | 6, _ => rfl
  | 7, _ => rfl
  | 8, _ => rfl
  | 9, _ => rfl
  | 10, _ => rfl
  | 11, _ => rfl
  | n + 12, h => absurd h (by omega)
theorem bv_rs1 {E : bw_E} {str : Nat → Nat} : ∀ j, j < 12 → bk_rf E (1 + (30 + 14 * 1 + 1)) 12 j = some ((bv_E E str).1 (bw_rf 84 j))
  | 0, _ => rfl
  | 1, _ => rfl
  | 2, _ => rfl
  | 3, _ => rfl
  | 4, _ => rfl
  | 5, _ => rfl
  | 6, _ => rfl
  | 7, _ => rfl
  | 8, _ => rfl
  | 9, _ => rfl
  | 10, _ => rfl
  | 11, _ => rfl
  | n + 12, h => absurd h (by omega)
theorem bv_rs2 {E : bw_E} {str : Nat → Nat} : ∀ j, j < 12 → bk_rf E (1 + (30 + 14 * 2 + 1)) 12 j = some ((bv_E E str).1 (bw_rf 85 j))
  | 0, _ => rfl
  | 1, _ => rfl
  | 2, _ => rfl
  | 3, _ => rfl
  | 4, _ => rfl
  | 5, _ => rfl
  | 6, _ => rfl
  | 7, _ => rfl
  | 8, _ => rfl
  | 9, _ => rfl
  | 10, _ => rfl
  | 11, _ => rfl
  | n + 12, h => absurd h (by omega)
theorem bv_rs3 {E : bw_E} {str : Nat → Nat} : ∀ j, j < 12 → bk_rf E (1 + (30 + 14 * 3 + 1)) 12 j = some ((bv_E E str).1 (bw_rf 86 j))
  | 0, _ => rfl
  | 1, _ => rfl
  | 2, _ => rfl
  | 3, _ => rfl
  | 4, _ => rfl
  | 5, _ => rfl
  | 6, _ => rfl
  | 7, _ => rfl
  | 8, _ => rfl
  | 9, _ => rfl
  | 10, _ => rfl
  | 11, _ => rfl
  | n + 12, h => absurd h (by omega)
theorem bv_rs4 {E : bw_E} {str : Nat → Nat} : ∀ j, j < 12 → bk_rf E (1 + (30 + 14 * 4 + 1)) 12 j = some ((bv_E E str).1 (bw_rf 87 j))
  | 0, _ => rfl
  | 1, _ => rfl
  | 2, _ => rfl
  | 3, _ => rfl
  | 4, _ => rfl
  | 5, _ => rfl
  | 6, _ => rfl
  | 7, _ => rfl
  | 8, _ => rfl
  | 9, _ => rfl
  | 10, _ => rfl
  | 11, _ => rfl
  | n + 12, h => absurd h (by omega)
theorem bv_P {E : bw_E} {str : Nat → Nat} {H : Heap} (h : va_P (E.2.1, E.2.2.1) bw_cls (bk_ws E (bv_CS E)) H) : va_P (E.2.1, E.2.2.1) bw_cls (bw_ws (bv_E E str) bv_w0) H := by
  intro k q hk
  have hk2 : k < 148 := by
    have := (List.getElem?_eq_some_iff.mp hk).1
    rw [bw_ws_len] at this
    exact this
  rw [bw_ws_at hk2] at hk
  cases hk
  unfold bw_cell
  rw [bv_E1 hk2]
  by_cases c1 : k = 30
  · subst c1
    have g := h (bv_pos 30) _ (bk_at bv_c30)
    have g2 : H[E.1 (bv_pos 30)]? = some (vp_cell (E.2.2.2 3) (5, .inr (.inr (.inr (.inr (bk_rg E 1 5)))))) := g
    rw [vp_cell_ref (bv_rg5 (str := str))] at g2
    exact g2
  by_cases d0 : k = 83
  · subst d0
    have g := h (bv_pos 83) _ (bk_at bv_c83)
    have g2 : H[E.1 (bv_pos 83)]? = some (vp_cell (E.2.2.2 4) (12, .inr (.inr (.inr (.inr (bk_rf E (1 + (30 + 14 * 0 + 1)) 12)))))) := g
    rw [vp_cell_ref (bv_rs0 (str := str))] at g2
    exact g2
  by_cases d1 : k = 84
  · subst d1
    have g := h (bv_pos 84) _ (bk_at bv_c84)
    have g2 : H[E.1 (bv_pos 84)]? = some (vp_cell (E.2.2.2 4) (12, .inr (.inr (.inr (.inr (bk_rf E (1 + (30 + 14 * 1 + 1)) 12)))))) := g
    rw [vp_cell_ref (bv_rs1 (str := str))] at g2
    exact g2
  by_cases d2 : k = 85
  · subst d2
    have g := h (bv_pos 85) _ (bk_at bv_c85)
    have g2 : H[E.1 (bv_pos 85)]? = some (vp_cell (E.2.2.2 4) (12, .inr (.inr (.inr (.inr (bk_rf E (1 + (30 + 14 * 2 + 1)) 12)))))) := g
    rw [vp_cell_ref (bv_rs2 (str := str))] at g2
    exact g2
  by_cases d3 : k = 86
  · subst d3
    have g := h (bv_pos 86) _ (bk_at bv_c86)
    have g2 : H[E.1 (bv_pos 86)]? = some (vp_cell (E.2.2.2 4) (12, .inr (.inr (.inr (.inr (bk_rf E (1 + (30 + 14 * 3 + 1)) 12)))))) := g
    rw [vp_cell_ref (bv_rs3 (str := str))] at g2
    exact g2
  by_cases d4 : k = 87
  · subst d4
    have g := h (bv_pos 87) _ (bk_at bv_c87)
    have g2 : H[E.1 (bv_pos 87)]? = some (vp_cell (E.2.2.2 4) (12, .inr (.inr (.inr (.inr (bk_rf E (1 + (30 + 14 * 4 + 1)) 12)))))) := g
    rw [vp_cell_ref (bv_rs4 (str := str))] at g2
    exact g2
  exact h (bv_pos k) _ (bk_at (bv_cell k hk2 c1 (by omega)))
theorem bv_inj {E : bw_E} {str : Nat → Nat} (hE : bk_E E) : bw_inj (bv_E E str) := by
  intro i j hi hj h
  rw [bv_E1 hi, bv_E1 hj, hE (bv_pos i), hE (bv_pos j)] at h
  exact bv_pos_inj i hi j hj (by omega)
