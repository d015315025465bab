/-! noun: the reference's half -/
def bv_JS (S : bm_S) (K : Nat) (w : bw_W) : Prop := bm_wfS K S ∧ bx_S S w ∧ (by_0 S w ∨ by_S S w) ∧ bx_Z w
theorem bv_JS.of {K : Nat} {w : bw_W} (h : bv_J K w) : ∃ S, bv_JS S K w := by
  rcases h with ⟨S, a, b, c, e⟩ | ⟨S, a, b, c, e⟩
  · exact ⟨S, a, b, Or.inl c, e⟩
  · exact ⟨S, a, b, Or.inr c, e⟩
theorem bv_JS.J {S : bm_S} {K : Nat} {w : bw_W} (h : bv_JS S K w) : bv_J K w := by
  obtain ⟨a, b, c | c, e⟩ := h
  · exact Or.inl ⟨S, a, b, c, e⟩
  · exact Or.inr ⟨S, a, b, c, e⟩
theorem bv_JS.c77 {S : bm_S} {K : Nat} {w w1 : bw_W} (h : bv_JS S K w) (hf : bw_fr [77] w w1) : bv_JS S K w1 := by
  obtain ⟨a, b, c, e⟩ := h
  refine ⟨a, b.fr a hf (by unfold bx_sc; decide), ?_, e.fr' hf (by decide)⟩
  rcases c with c | c
  · exact Or.inl (c.frx hf (by decide))
  · exact Or.inr (c.frx hf (by decide))
theorem bv_JS.t50 {S : bm_S} {K : Nat} {w : bw_W} {v : Int32} (h : bv_JS S K w) : bv_JS S K (sw_i w 50 0 v) := by
  obtain ⟨a, b, c, e⟩ := h
  have f : by_fr [] [0] w (sw_i w 50 0 v) := (by_fr.rf _ _ _).s5 (by decide)
  refine ⟨a, b.fry a f (fun c q => by cases q), ?_, fun i hi => by rw [f.i (by decide) (by decide)]; exact e i hi⟩
  rcases c with c | c
  · exact Or.inl (c.fr f (fun c q => by cases q) (by unfold by_sf; decide))
  · exact Or.inr (c.fr f (fun c q => by cases q) (by unfold by_sf; decide))
theorem bm_noun {E : bw_E} {d : Nat} {S : bm_S} {K : Nat} {w : bw_W} {a0 a1 : Int32} (h : bv_JS S K w) : bw_ri E (d + 2) mX12_noun [.ref 50, .int a0, .int a1] w (fun b w' => (br_noun (st_X S) (st_N S) a0 a1 = none → gw_i w' 50 0 = 1) ∧ (∀ v, br_noun (st_X S) (st_N S) a0 a1 = some v → b = nI v ∧ gw_i w' 50 0 = 0) ∧ bv_JS S K w') := by
  obtain ⟨a, b, c, e⟩ := id h
  rcases c with c | c
  · have hn : br_noun (st_X S) (st_N S) a0 a1 = none := by
      unfold br_noun
      rw [c.2.2.2.2.2.2.2.1, bm_ix0]
    refine wfX12_noun (br_nt (b0_z1 c a0) ⟨fun _ => ?_, fun v z => ?_, h.t50⟩)
    · rw [gs_ii, if_pos ⟨rfl, rfl⟩]
    · rw [hn] at z; cases z
  · refine qm_noun c.2.1 c.N a.2.2.1.1 a.2.1 ?_
    cases hn : br_noun (st_X S) (st_N S) a0 a1 with
    | none => exact ⟨fun _ => by rw [gs_ii, if_pos ⟨rfl, rfl⟩], fun v z => (by cases z), h.t50⟩
    | some v => exact ⟨fun z => (by cases z), fun v' z => (by cases z; exact ⟨rfl, by rw [gs_ii, if_pos ⟨rfl, rfl⟩]⟩), h.t50⟩
theorem bm_thrown {E : bw_E} {d : Nat} {w : bw_W} {Q : Int32 → bw_W → Prop} (hq : Q (gw_i w 50 0) w) : bw_ri E (d + 0) mX12_thrown [.ref 50] w Q := wfX12_thrown hq
