/-! clauses, the whole text: the class -/
def br_lex : Nat ⊕ bd_D → Int32
  | .inl e => nI e
  | .inr _ => -1
def bx_gotL (w : bw_W) : Nat ⊕ bd_D → Prop
  | .inl _ => True
  | .inr D => bx_D D w
section XLEX3
variable {E : bw_E} {d : Nat} {w : bw_W} {t : List Nat} {D : bd_D}
theorem xs_clause {Q : Bool → bw_W → Prop} {q : Nat} (ht : bm_wfT t) (hT : bx_T t w) (hd : bd_wf D) (hD : bx_D D w) (hZ : bx_Z w) (hC : bx_C t q w) (hq : ∀ b w', bw_fr bx_dl w w' → bx_Z w' → bx_r t w' (bl_clause t q D) b → Q b w') : bw_rb E (d + 7) mX4_readClause [.ref 4] w Q := by
  have hpl := hC.pl
  unfold bl_clause at hq
  refine wfX4_readClause ⟨_, xs_word (d := d + 5) (Q := fun v w3 => (v = false → bp_word t q = none ∧ bw_fr [3] w w3 ∧ gw_i w3 3 3 = nI q) ∧ (v = true → ∃ u q', bp_word t q = some (u, q') ∧ bw_fr [3] w w3 ∧ gw_i w3 3 2 = nI q ∧ gw_i w3 3 1 = nI (q + u.length) ∧ bx_C t q' w3)) ht hT hC (fun e w' f g _ => ⟨fun _ => ⟨e, f, g⟩, fun z => absurd z br_ft⟩) (fun u q' e w' f g2 g1 _ c => ⟨fun z => absurd z br_tf, fun _ => ⟨u, q', e, f, g2, g1, c⟩⟩), ?_⟩
  rintro v2 w3 ⟨hno, hyes⟩
  refine ⟨fun z => ?_, fun z => ?_⟩
  rotate_left
  · obtain ⟨e, f, g⟩ := hno z
    rw [e] at hq
    exact hq false w3 (f.up (by decide)) (hZ.fr f (by decide)) (Or.inl ⟨rfl, g⟩)
  obtain ⟨u, q1, e, f3, g2, g1, c3⟩ := hyes z
  obtain ⟨o1, o2, o3, o4, o5, o6, o7, o8⟩ := bp_word_some hpl.1 e
  have hT3 := hT.fr f3 (by decide) (by decide)
  have hD3 := hD.f3 f3
  have hZ3 := hZ.fr f3 (by decide)
  have f3' : bw_fr bx_dl w w3 := f3.up (by decide)
  have hlt : ∀ j, j < u.length → bm_lt (bm_b t (q + j)) = true := fun j hj => bm_e_all (P := bm_lt) rfl hpl.1 (by omega) (by omega)
  have isw : ∀ k, k < 9 → bw_rb E (d + 6) mX0_wordIs [.ref 3, .ref (1000 + k)] w3 (fun v w' => v = decide (u = bm_kw k) ∧ w3 = w') := fun k hk => xs_wordIs (d := d + 2) hk ht hT3 o3 o1.2 o1.1 o6 hlt g2 g1 ⟨rfl, rfl⟩
  rw [e] at hq
  dsimp only at hq
  rw [g2]
  refine ⟨_, isw 0 (by decide), ?_⟩
  rintro _ _ ⟨rfl, rfl⟩
  by_cases k0 : u = bm_kw 0
  · rw [if_pos k0] at hq
    rw [decide_eq_true k0]
    exact ⟨fun z => absurd z br_tf, fun _ => ⟨Q, xs_rnoun (d := d + 4) ht hT3 hd hD3 c3 (fun b w' f r => hq b w' (f3'.tr (f.up (by decide))) (hZ3.fr f (by decide)) r), fun _ _ h => h⟩⟩
  rw [if_neg k0] at hq
  rw [decide_eq_false k0]
  refine ⟨fun _ => ⟨_, isw 1 (by decide), ?_⟩, fun z => absurd z br_ft⟩
  rintro _ _ ⟨rfl, rfl⟩
  by_cases k1 : u = bm_kw 1
  · rw [if_pos k1] at hq
    rw [decide_eq_true k1]
    exact ⟨fun z => absurd z br_tf, fun _ => ⟨Q, xs_rform (d := d + 3) ht hT3 hd hD3 c3 (fun b w' f r => hq b w' (f3'.tr (f.up (by decide))) (hZ3.fr f (by decide)) r), fun _ _ h => h⟩⟩
  rw [if_neg k1] at hq
  rw [decide_eq_false k1]
  refine ⟨fun _ => ⟨_, isw 2 (by decide), ?_⟩, fun z => absurd z br_ft⟩
  rintro _ _ ⟨rfl, rfl⟩
  by_cases k2 : u = bm_kw 2
  · rw [if_pos k2] at hq
    rw [decide_eq_true k2]
    exact ⟨fun z => absurd z br_tf, fun _ => ⟨Q, xs_rbound (d := d + 3) (p := 0) (by decide) ht hT3 hd hD3 c3 (fun b w' f r => hq b w' (f3'.tr (f.up (by decide))) (hZ3.fr f (by decide)) r), fun _ _ h => h⟩⟩
  rw [if_neg k2] at hq
  rw [decide_eq_false k2]
  refine ⟨fun _ => ⟨_, isw 3 (by decide), ?_⟩, fun z => absurd z br_ft⟩
  rintro _ _ ⟨rfl, rfl⟩
  by_cases k3 : u = bm_kw 3
  · rw [if_pos k3] at hq
    rw [decide_eq_true k3]
    exact ⟨fun z => absurd z br_tf, fun _ => ⟨Q, xs_rbound (d := d + 3) (p := 1) (by decide) ht hT3 hd hD3 c3 (fun b w' f r => hq b w' (f3'.tr (f.up (by decide))) (hZ3.fr f (by decide)) r), fun _ _ h => h⟩⟩
  rw [if_neg k3] at hq
  rw [decide_eq_false k3]
  refine ⟨fun _ => ⟨_, isw 4 (by decide), ?_⟩, fun z => absurd z br_ft⟩
  rintro _ _ ⟨rfl, rfl⟩
  by_cases k4 : u = bm_kw 4
  · rw [if_pos k4] at hq
    rw [decide_eq_true k4]
    exact ⟨fun z => absurd z br_tf, fun _ => ⟨Q, xs_rmsg (d := d + 3) ht hT3 hd hD3 hZ3 c3 (fun b w' f z r => hq b w' (f3'.tr f) z r), fun _ _ h => h⟩⟩
  rw [if_neg k4] at hq
  rw [decide_eq_false k4]
  refine ⟨fun _ => ?_, fun z => absurd z br_ft⟩
  have f9 : bw_fr [3] w3 (sw_i w3 3 3 (nI q)) := (bw_fr.rf _ _).si (by decide)
  exact hq false _ (f3'.tr (f9.up (by decide))) (hZ3.fr f9 (by decide)) (Or.inl ⟨rfl, by rw [gs_ii, if_pos ⟨rfl, rfl⟩]⟩)
theorem xs_clrow {Q : bw_W → Prop} {ta tn : Nat} (hsh : bw_sh ta = (2, tn, 0)) (htn : tn < 1000) (hq : ∀ w', bw_fr [ta] w w' → (∀ j, j < tn → gw_l w' ta j = 0) → (∀ j, gw_i w' ta j = gw_i w ta j) → Q w') : bw_rv E (d + 0) mX3_clearRow [.ref ta] w Q := by
  have key : ∀ n i (w' : bw_W), i + n = tn → bw_fr [ta] w w' → (∀ j, j < i → gw_l w' ta j = 0) → (∀ j, gw_i w' ta j = gw_i w ta j) → bw_G E (d + 0) mX3_clearRow 2 [some (.ref ta), some (.int (nI i))] [] w' (bw_qv Q) := by
    intro n
    induction n with
    | zero =>
      intro i w' h f hj hi
      exact wfX3_clearRow_2 hsh (br_t (nI_le (by omega) (by omega)) (hq w' f (fun j hj2 => hj j (by omega)) hi))
    | succ n ih =>
      intro i w' h f hj hi
      refine wfX3_clearRow_2 hsh (br_f (nI_ge (by omega) (by omega)) ⟨bm_in (by omega) (by omega), ?_⟩)
      rw [nI_clamp (by omega), nI_1]
      refine ih (i + 1) _ (by omega) (f.sl (by simp)) (fun j hj2 => ?_) (fun j => by rw [gs_il]; exact hi j)
      rw [gs_ll]
      by_cases z : j = i
      · rw [if_pos ⟨rfl, z⟩]
      · rw [if_neg (fun x => z x.2)]; exact hj j (by omega)
  exact wfX3_clearRow hsh (key tn 0 w (by omega) (bw_fr.rf _ _) (fun j hj => absurd hj (Nat.not_lt_zero j)) (fun _ => rfl))
theorem xs_clear {Q : bw_W → Prop} (hq : ∀ w', bw_fr [5, 8, 9, 10] w w' → bx_D bd_0 w' → Q w') : bw_rv E (d + 1) mX3_clear [.ref 5] w Q := by
  refine wfX3_clear ?_
  generalize hw1 : sw_i (sw_i w 5 0 0) 5 6 0 = w1
  have f1 : bw_fr [5] w w1 := by rw [← hw1]; exact ((bw_fr.rf _ _).si (by decide)).si (by decide)
  have g50 : gw_i w1 5 0 = 0 := by rw [← hw1, gs_ii, if_neg (by omega), gs_ii, if_pos ⟨rfl, rfl⟩]
  have g56 : gw_i w1 5 6 = 0 := by rw [← hw1, gs_ii, if_pos ⟨rfl, rfl⟩]
  refine ⟨fun w3 => bw_fr [8] w1 w3 ∧ ∀ j, j < 48 → gw_l w3 8 j = 0, xs_clrow (d := d) (by decide) (by decide) (fun w' f g _ => ⟨f, g⟩), ?_⟩
  rintro w3 ⟨f3, g3⟩
  refine ⟨fun w6 => bw_fr [9] w3 w6 ∧ ∀ j, j < 24 → gw_l w6 9 j = 0, xs_clrow (d := d) (by decide) (by decide) (fun w' f g _ => ⟨f, g⟩), ?_⟩
  rintro w6 ⟨f6, g6⟩
  refine ⟨fun w9 => bw_fr [10] w6 w9 ∧ ∀ j, j < 24 → gw_l w9 10 j = 0, xs_clrow (d := d) (by decide) (by decide) (fun w' f g _ => ⟨f, g⟩), ?_⟩
  rintro w9 ⟨f9, g9⟩
  refine hq w9 ((((f1.up (by decide)).tr (f3.up (by decide))).tr (f6.up (by decide))).tr (f9.up (by decide))) ⟨?_, ?_, fun i hi => absurd hi (Nat.not_lt_zero i), fun j hj => ?_, fun j hj => ⟨?_, ?_⟩, fun m hm => absurd hm (Nat.not_lt_zero m)⟩
  · rw [f9.i (by decide), f6.i (by decide), f3.i (by decide)]; exact g50
  · rw [f9.i (by decide), f6.i (by decide), f3.i (by decide)]; exact g56
  · rw [f9.l (by decide), f6.l (by decide)]; exact g3 j hj
  · rw [f9.l (by decide)]; exact g6 j hj
  · exact g9 j hj
theorem xs_ffL {Q : Int32 → bw_W → Prop} (ht : bm_wfT t) (hT : bx_T t w) (hZ : bx_Z w) (hq : ∀ w', bw_fr bx_dl w w' → bx_Z w' → bx_gotL w' (bl_lex t 481 (bm_sk t 0) bd_0) → Q (br_lex (bl_lex t 481 (bm_sk t 0) bd_0)) w') : bw_ri E (d + 8) mX4_findFault [.ref 4] w Q := by
  have h480 := ht.1
  generalize hR : bl_lex t 481 (bm_sk t 0) bd_0 = R at hq
  have key : ∀ n q k (D' : bd_D) (w' : bw_W), t.length < n + q → k ≤ q → bd_wf D' → bx_D D' w' → bx_Z w' → bx_C t q w' → bw_fr bx_dl w w' → R = bl_lex t n q D' → bw_G E (d + 8) mX4_findFault 16 [some (.ref 4), some (.int (nI k))] [] w' (bw_qi Q) := by
    intro n
    induction n with
    | zero =>
      intro q k D' w' h1 h2 hd hD hZ' hC f' hgo
      have := hC.pl.1
      omega
    | succ n ih =>
      intro q k D' w' h1 h2 hd hD hZ' hC f' hgo
      have hpl := hC.pl
      have hpl1 := hpl.1
      have hT' := hT.fr f' (by decide) (by decide)
      refine wfX4_findFault_16 (br_f (nI_nlt (a := 480) (b := k) (by omega) (by decide)) ?_)
      refine ⟨fun b w3 => bw_fr bx_dl w' w3 ∧ bx_Z w3 ∧ bx_r t w3 (bl_clause t q D') b, xs_clause (d := d) ht hT' hd hD hZ' hC (fun b w'' f z r => ⟨f, z, r⟩), ?_⟩
      rintro b w3 ⟨f3, z3, r3⟩
      have ok := bl_clause_ok hpl hd
      have f3' := f'.tr f3
      have hT3 := hT.fr f3' (by decide) (by decide)
      rw [bl_lex] at hgo
      -- behind a clause that the class took: at the end of the text or of the clause
      have rest : ∀ (q' : Nat), bx_C t q' w3 → (∀ (wz : bw_W), bw_fr bx_dl w wz → bx_Z wz → bw_fr [3] w3 wz → gw_i wz 3 1 = nI q' → t.length ≤ q' → ((¬ (gw_i wz 5 0) = 0 → Q (-1) wz) ∧ ((gw_i wz 5 0) = 0 → Q (gw_i wz 3 1) wz))) → (¬ t.length ≤ q' → bm_b t q' ≠ 59 → ∀ wz, bw_fr bx_dl w wz → bx_Z wz → Q (nI q') wz) → (¬ t.length ≤ q' → bm_b t q' = 59 → ∀ wz, bw_fr bx_dl w wz → bx_Z wz → bw_fr [3] w3 wz → bx_C t (bm_sk t (q' + 1)) wz → bw_G E (d + 8) mX4_findFault 16 [some (.ref 4), some (.int (nI k + 1))] [] wz (bw_qi Q)) → (∃ Q4 : Bool → bw_W → Prop, bw_rb E (d + 7) mX0_isAtEnd [.ref 3] w3 Q4 ∧ ∀ v5 w6, Q4 v5 w6 → ((v5 = false → (∃ Q7 : Int32 → bw_W → Prop, bw_ri E (d + 7) mX0_nextSign [.ref 3] w6 Q7 ∧ ∀ v8 w9, Q7 v8 w9 → ((v8 = 59 → bw_G E (d + 8) mX4_findFault 16 [some (.ref 4), some (.int (nI k + 1))] [] (sw_i w9 3 1 ((gw_i w9 3 1) + 1)) (bw_qi Q)) ∧ (¬ (v8 = 59) → Q (gw_i w9 3 1) w9)))) ∧ (v5 = true → ((¬ (gw_i w6 5 0) = 0 → Q (-1) w6) ∧ ((gw_i w6 5 0) = 0 → Q (gw_i w6 3 1) w6))))) := by
        intro q' c3 hend hbad hsemi
        have hpl' := c3.pl
        have hb := bm_b_lt q' ht
        have f8 : bw_fr [3] w3 (sw_i w3 3 1 (nI q')) := (bw_fr.rf _ _).si (by decide)
        have a8 : gw_i (sw_i w3 3 1 (nI q')) 3 1 = nI q' := by rw [gs_ii, if_pos ⟨rfl, rfl⟩]
        refine ⟨fun v w8 => v = decide (t.length ≤ q') ∧ w8 = sw_i w3 3 1 (nI q'), xs_atEnd (d := d + 6) ht hT3 c3 ⟨rfl, rfl⟩, ?_⟩
        rintro _ _ ⟨rfl, rfl⟩
        by_cases ce : t.length ≤ q'
        · rw [decide_eq_true ce]
          exact ⟨fun z => absurd z br_tf, fun _ => hend _ (f3'.tr (f8.up (by decide))) (z3.fr f8 (by decide)) f8 a8 ce⟩
        · rw [decide_eq_false ce]
          refine ⟨fun _ => ⟨fun v w11 => v = nI (bm_b t q') ∧ w11 = sw_i w3 3 1 (nI q'), xs_sign (d := d + 6) ht (hT3.fr f8 (by decide) (by decide)) (bx_C_at hpl'.1 hpl'.2 a8) ⟨rfl, sw_self a8⟩, ?_⟩, fun z => absurd z br_ft⟩
          rintro _ _ ⟨rfl, rfl⟩
          rw [a8, nI_1 q', sw_ii, show (59 : Int32) = nI 59 from rfl, nI_eq (by omega) (by decide)]
          have f9 : bw_fr [3] w3 (sw_i w3 3 1 (nI (q' + 1))) := (bw_fr.rf _ _).si (by decide)
          exact ⟨fun y => hsemi ce y _ (f3'.tr (f9.up (by decide))) (z3.fr f9 (by decide)) f9 ⟨q' + 1, by rw [gs_ii, if_pos ⟨rfl, rfl⟩], by omega, rfl⟩, fun y => hbad ce y _ (f3'.tr (f8.up (by decide))) (z3.fr f8 (by decide))⟩
      cases e : bl_clause t q D' with
      | inl e0 =>
        rw [e] at r3 hgo
        rw [hgo] at hq
        rcases r3 with ⟨rfl, g33⟩ | ⟨rfl, c3, n1, n2⟩
        · refine ⟨fun z => absurd z br_ft, fun _ => ?_⟩
          rw [g33]; exact hq w3 f3' z3 trivial
        · exact ⟨fun _ => rest e0 c3 (fun wz _ _ _ _ z => absurd z n1) (fun _ _ wz f z => hq wz f z trivial) (fun _ y => absurd y n2), fun z => absurd z br_tf⟩
      | inr r =>
        obtain ⟨D2, q'⟩ := r
        rw [e] at r3 hgo ok
        obtain ⟨rfl, c3, hD3⟩ := r3
        obtain ⟨ok1, ok2, ok3⟩ := ok
        dsimp only at hgo
        have h6 := ok1.1
        refine ⟨fun _ => rest q' c3 (fun wz f z f8 a8 ce => ?_) (fun ce y wz f z => ?_) (fun ce y wz f z f9 cz => ?_), fun z => absurd z br_tf⟩
        · rw [if_pos ce] at hgo
          have hDz := hD3.f3 f8
          rw [hDz.1, nI_z (by omega)]
          have hC8 : bx_C t q' w3 := c3
          refine ⟨fun y => ?_, fun y => ?_⟩
          · rw [if_neg y] at hgo
            rw [hgo] at hq
            exact hq wz f z hDz
          · rw [if_pos y] at hgo
            rw [hgo] at hq
            rw [a8]; exact hq wz f z trivial
        · rw [if_neg ce, if_pos y] at hgo
          rw [hgo] at hq
          exact hq wz f z trivial
        · rw [if_neg ce, if_neg (fun x => x y)] at hgo
          rw [nI_1]
          have hge : q' + 1 ≤ bm_sk t (q' + 1) := bm_e_ge (P := bm_bl) rfl (show q' + 1 ≤ t.length by omega)
          exact ih (bm_sk t (q' + 1)) (k + 1) D2 wz (by omega) (by omega) ok1 (hD3.f3 f9) z cz f hgo
  refine wfX4_findFault ⟨fun w3 => bw_fr [5, 8, 9, 10] w w3 ∧ bx_D bd_0 w3, xs_clear (d := d + 6) (fun w' f g => ⟨f, g⟩), ?_⟩
  rintro w3 ⟨f3, g3⟩
  have f4 : bw_fr [3] w3 (sw_i w3 3 1 0) := (bw_fr.rf _ _).si (by decide)
  refine key 481 (bm_sk t 0) 0 bd_0 _ (by omega) (Nat.zero_le _) bd_wf_0 (g3.f3 f4) ((hZ.fr f3 (by decide)).fr f4 (by decide)) ⟨0, by rw [gs_ii, if_pos ⟨rfl, rfl⟩]; rfl, Nat.zero_le _, rfl⟩ ((f3.up (by decide)).tr (f4.up (by decide))) hR.symm
end XLEX3
