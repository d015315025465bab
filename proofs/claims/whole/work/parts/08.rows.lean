def bw_cm (own : String) (idx : Nat) : Prop := Cond.methodLink own idx Lib.Math.min.name ∈ bw_tbl ∧ Cond.static Lib.Math.min.name ∈ bw_tbl ∧ Cond.initialized "java/lang/Math" ∈ bw_tbl ∧ Cond.code Lib.Math.min.name Lib.Math.min.code 2 (some .int) ∈ bw_tbl
theorem bw_mmin {E : bw_E} {d : Nat} {M : bw_M} {pc : Nat} {L : List (Option Value)} {st : List Value} {w : bw_W} {Q : Option Value → bw_W → Prop} {idx : Nat} {x y : Int32} (hc : bw_cm M.1.cls idx) (hw : (st.map fun v => v.category).sum ≤ 8) (hd : decode M.2.1 pc = .ok (.invokestatic idx, 3)) (k : bw_G E (d + 1) M (pc + 3) L (.int (if y < x then y else x) :: st) w Q) : bw_G E (d + 1) M pc L (.int y :: .int x :: st) w Q := by
  intro p l e s m args below meth c H locs ls hC hP hS hL
  have ht := hC.2.2.2.2.2.1
  have hcat : ((st.map (bw_v E)).map fun v => v.category) = st.map fun v => v.category := by
    rw [List.map_map]
    exact List.map_congr_left (fun v _ => bw_v_cat E v)
  exact va_mmin hC.1 hC.2.1 (hC.2.2.1.trans hL.1.symm) hC.2.2.2.2.1 (ht _ hc.1) (ht _ hc.2.1) (ht _ hc.2.2.1) (ht _ hc.2.2.2) (by show 1 ≤ d + 1; omega) (by rw [hcat]; show _ ≤ 40 * (d + 1); omega) (Nat.zero_le _) (Nat.zero_le _) hd (k p l e s m args below meth c H locs ls hC hP hS hL)
theorem cm_BentWords_History_29 : bw_cm "BentWords$History" 29 := ⟨bw_mem4 200 (by decide +kernel) rfl, bw_mem4 201 (by decide +kernel) rfl, bw_mem1 23 (by decide +kernel) rfl, bw_mem4 202 (by decide +kernel) rfl⟩
