/-! the reference: reading a line -/
def x_ln2 (gv : Nat → Option (List Nat)) (R : RS) (t : List Nat) (p e : Nat) : Bool × RS :=
  if p = e then (true, R)
  else if cap (t.getD p 0) = true ∧ p + 1 < e ∧ t.getD (p + 1) 0 = 61 then (true, wDf R (up1 (rDf R) (t.getD p 0 - 65) (some (slc t (fi (fun k => decide (¬ t.getD k 0 = 32)) e (p + 2)) e))))
  else x_ruleT gv R (slc t p e)
theorem x_line_eq (gv : Nat → Option (List Nat)) (R : RS) (t : List Nat) : x_line gv R t = if t.head? = some 9 then x_cmd R (t.drop 1) else x_ln2 gv R t (fi (fun k => decide (¬ t.getD k 0 = 32)) (fi (fun k => decide (t.getD k 0 = 35)) t.length 0) 0) (bk t (fi (fun k => decide (¬ t.getD k 0 = 32)) (fi (fun k => decide (t.getD k 0 = 35)) t.length 0) 0) (fi (fun k => decide (t.getD k 0 = 35)) t.length 0)) := (rfl)
section
variable {σ : rb_St} {b : Nat} {F : fx_F} {T : List Nat} {gv : Nat → Option (List Nat)}
theorem m_lineEnd (hb : rb_b σ ≤ b) (hF : fx_ln F) {R : RS} (hR : rok R) (hE : eok R) (hl : rNu R 0 < 1000) (hm : m_rules F T R) (hT : m_text F T) (hT3 : T.length ≤ 320) (hTk : tk T) (hg : m_given F gv) (hgo : gok gv) {fm to p e : Nat} (hft : fm ≤ to) (hto : to ≤ T.length) (hpe : p ≤ e) (he : fm + e ≤ to) : ∃ F', f_M_readLine_j101 (some (fx_ad b 34)) (nI (fm + e)) (nI (fm + p)) (fx_mk σ b F) = some (some (.int (nI (b2 (x_ln2 gv R (slc T fm to) p e).1))), fx_mk σ b F') ∧ m_res T F F' (x_ln2 gv R (slc T fm to) p e) := by
  by_cases e0 : p = e
  · have hx : x_ln2 gv R (slc T fm to) p e = (true, R) := if_pos e0
    rw [hx]
    refine ⟨F, ?_, ⟨fun _ => hm, hm.1, hF, fr_refl _ _ _ _⟩⟩
    unfold f_M_readLine_j101
    simp (disch := omega) only [u_l1, ↓reduceIte, n_ltT, n_ltF, n_leT, n_leF, n_eqT, n_eqF, nI_1, u_lt, u_le, u_eq, u_add, u_ix, u_ixL, u_ixR, u_cl, u_nm1, u_nm1', u_m1l, u_m1n, u_l0, Option.bind_some, Option.map_some, not_true_eq_false, not_false_eq_true, true_and, and_true, Nat.add_sub_cancel, Bool.false_eq_true, u_nar2, b2_t]
  · have hg1 := rk_getD hT (i := fm + p) (by omega)
    have hty := ty_lt (tk_get hTk (k := fm + p) (by omega))
    have hs1 : (slc T fm to).getD p 0 = T.getD (fm + p) 0 := slc_get (by omega)
    have hcap := m_capital (fx_mk σ b F) (c := T.getD (fm + p) 0) (by omega)
    have hrule : ∃ F', f_M_readLine_j213 (some (fx_ad b 34)) (nI (fm + e)) (nI (fm + p)) (fx_mk σ b F) = some (some (.int (nI (b2 (x_ruleT gv R (slc (slc T fm to) p e)).1))), fx_mk σ b F') ∧ m_res T F F' (x_ruleT gv R (slc (slc T fm to) p e)) := by
      rw [slc_slc he]
      obtain ⟨F', a1, a2⟩ := m_ruleLine (σ := σ) (b := b) hb hF hR hE hl hm hT hT3 hTk hg hgo (p := fm + p) (q := fm + e) (by omega) (by omega)
      refine ⟨F', ?_, a2⟩
      unfold f_M_readLine_j213
      simp (disch := omega) only [↓fx_bm, ↓cI_of a1, if_pos (isZ_b2 _)]
    obtain ⟨F', a1, a2⟩ := hrule
    by_cases c1 : cap (T.getD (fm + p) 0) = true
    · rw [if_pos c1] at hcap
      by_cases c2 : p + 1 < e
      · have hg2 := rk_getD hT (i := fm + p + 1) (by omega)
        have hty2 := ty_lt (tk_get hTk (k := fm + p + 1) (by omega))
        have hs2 : (slc T fm to).getD (p + 1) 0 = T.getD (fm + p + 1) 0 := slc_get (by omega)
        by_cases c3 : T.getD (fm + p + 1) 0 = 61
        · have hx : x_ln2 gv R (slc T fm to) p e = (true, wDf R (up1 (rDf R) (T.getD (fm + p) 0 - 65) (some (slc (slc T fm to) (fi (fun k => decide (¬ (slc T fm to).getD k 0 = 32)) e (p + 2)) e)))) := by
            unfold x_ln2
            rw [if_neg e0, hs1, hs2, if_pos ⟨c1, c2, c3⟩]
          rw [hx]
          have hc := of_decide_eq_true c1
          have hfi := fi_le (P := fun k => decide (¬ (slc T fm to).getD k 0 = 32)) (n := e) (k := p + 2) (by omega)
          have hfa : fi (fun k => decide (¬ T.getD k 0 = 32)) (fm + e) (fm + (p + 2)) = fm + fi (fun k => decide (¬ (slc T fm to).getD k 0 = 32)) e (p + 2) := by
            rw [fi_shift _ (by omega), Nat.add_sub_cancel_left]
            congr 1
            refine fi_congr (fun j h1 h2 => ?_)
            rw [slc_get (by omega)]
          generalize fi (fun k => decide (¬ (slc T fm to).getD k 0 = 32)) e (p + 2) = v at hfi hfa ⊢
          rw [slc_slc (by omega)]
          obtain ⟨g1, g2, g3, g4, g5, g6, g7, g8, g9, g10, g11, g12⟩ := hm
          have h43 := hF.1 43
          have h44 := hF.1 44
          have h45 := hF.1 45
          simp only [fx_cI] at h43 h44 h45
          generalize hm0 : T.getD (fm + p) 0 - 65 = m at *
          have hm26 : m < 26 := by omega
          have hloop : rb_it (fun z : (Int32) => f_M_readLine_b162 (some (fx_ad b 34)) (nI (fm + e)) (nI m) (z) (fx_mk σ b F)) (nI (fm + (p + 2))) = f_M_readLine_j186 (some (fx_ad b 34)) (nI (fm + e)) (nI m) (nI (fm + v)) (fx_mk σ b F) := by
            rw [← hfa]
            refine it_fim (n := fm + e) (fun k => decide (¬ T.getD k 0 = 32)) (fun k => f_M_readLine_j186 (some (fx_ad b 34)) (nI (fm + e)) (nI m) (nI k) (fx_mk σ b F)) ?_ ?_ (by omega)
            · intro k hk
              have hgk := rk_getD hT (i := k) (by omega)
              have htk := ty_lt (tk_get hTk (k := k) (by omega))
              unfold f_M_readLine_b162
              by_cases ek : T.getD k 0 = 32
              · simp (disch := omega) only [↓fx_bm, ↓bx_of rfl (show k < 2147483648 by omega) hgk, ek, show (32 : Int32) = nI 32 from rfl, decide_false, ↓reduceIte, n_ltT, n_ltF, n_leT, n_leF, n_eqT, n_eqF, nI_1, u_lt, u_le, u_eq, u_add, u_ix, u_ixL, u_ixR, u_cl, u_nm1, u_nm1', u_m1l, u_m1n, u_l0, Option.bind_some, Option.map_some, not_true_eq_false, not_false_eq_true, true_and, and_true, Nat.add_sub_cancel, Bool.false_eq_true, u_nar2]
              · simp (disch := omega) only [↓fx_bm, ↓bx_of rfl (show k < 2147483648 by omega) hgk, ek, show (32 : Int32) = nI 32 from rfl, decide_true, ↓reduceIte, n_ltT, n_ltF, n_leT, n_leF, n_eqT, n_eqF, nI_1, u_lt, u_le, u_eq, u_add, u_ix, u_ixL, u_ixR, u_cl, u_nm1, u_nm1', u_m1l, u_m1n, u_l0, Option.bind_some, Option.map_some, not_true_eq_false, not_false_eq_true, true_and, and_true, Nat.add_sub_cancel, Bool.false_eq_true, u_nar2]
            · unfold f_M_readLine_b162
              simp (disch := omega) only [↓reduceIte, n_ltT, n_ltF, n_leT, n_leF, n_eqT, n_eqF, nI_1, u_lt, u_le, u_eq, u_add, u_ix, u_ixL, u_ixR, u_cl, u_nm1, u_nm1', u_m1l, u_m1n, u_l0, Option.bind_some, Option.map_some, not_true_eq_false, not_false_eq_true, true_and, and_true, Nat.add_sub_cancel, Bool.false_eq_true, u_nar2]
          generalize hF1 : fx_A (fx_A (fx_A F 43 ((F.2.1 43).set m (nI 1))) 44 ((F.2.1 44).set m (nI (fm + v)))) 45 ((F.2.1 45).set m (nI (fm + e))) = F1
          have hfr1 : fr [] [43, 44, 45] [] F F1 := by
            subst hF1
            exact fr_A (fr_A (fr_A (fr_refl _ _ _ _) (by decide)) (by decide)) (by decide)
          have hln1 : fx_ln F1 := by
            subst hF1
            exact fx_lnA (fx_lnA (fx_lnA hF (by rw [List.length_set]; exact hF.1 _)) (by rw [List.length_set]; exact hF.1 _)) (by rw [List.length_set]; exact hF.1 _)
          refine ⟨F1, ?_, ⟨fun _ => ⟨m_names_fr g1 hfr1 (by decide), m_sf_fr g2 hfr1 (by decide), m_en_fr g3 hfr1 (by decide), m_cm_fr g4 hfr1 (by decide), m_pr_fr g5 hfr1 (by decide), ?_, m_ow_fr g7 hfr1 (by decide), m_fl_fr g8 hfr1 (by decide), m_op_fr g9 hfr1 (by decide), m_bo_fr g10 hfr1 (by decide), m_nu_fr g11 hfr1 (by decide), m_cu_fr g12 hfr1 (by decide)⟩, m_names_fr g1 hfr1 (by decide), hln1, fr_mono hfr1 (by decide) (by decide) (by decide)⟩⟩
          · subst hF1
            have hsub : nI (T.getD (fm + p) 0) - (65 : Int32) = nI m := by
              rw [u_l65, u_sub hc.1, hm0]
            have hi1 : nI (fm + p) + (1 : Int32) = nI (fm + p + 1) := by
              rw [u_l1, u_add]
            have hi2 : nI (fm + p) + (2 : Int32) = nI (fm + (p + 2)) := by
              rw [u_l2, u_add]
              rfl
            have hend : f_M_readLine_j186 (some (fx_ad b 34)) (nI (fm + e)) (nI m) (nI (fm + v)) (fx_mk σ b F) = some (some (.int (nI 1)), fx_mk σ b (fx_A (fx_A (fx_A F 43 ((F.2.1 43).set m (nI 1))) 44 ((F.2.1 44).set m (nI (fm + v)))) 45 ((F.2.1 45).set m (nI (fm + e))))) := by
              unfold f_M_readLine_j186
              simp (disch := omega) only [↓fx_bm, ↓fx_vm hb, ↓reduceIte, n_ltT, n_ltF, n_leT, n_leF, n_eqT, n_eqF, nI_1, u_lt, u_le, u_eq, u_add, u_ix, u_ixL, u_ixR, u_cl, u_nm1, u_nm1', u_m1l, u_m1n, u_l0, Option.bind_some, Option.map_some, not_true_eq_false, not_false_eq_true, true_and, and_true, Nat.add_sub_cancel, Bool.false_eq_true, u_nar2, fx_II, fx_AA, fx_LL, fx_I_1, fx_I_A, fx_I_L, fx_I_R, fx_I_Q, fx_A_1, fx_A_A, fx_A_L, fx_A_R, fx_A_Q, fx_L_1, fx_L_A, fx_L_L, fx_L_R, fx_L_Q, fx_R_1, fx_R_A, fx_R_L, fx_R_R, fx_R_Q, fx_Q_1, fx_Q_A, fx_Q_L, fx_Q_R, fx_Q_Q, Nat.reduceEqDiff, u_nar4, u_l1]
            unfold f_M_readLine_j101
            simp (disch := omega) only [↓fx_bm, ↓bx_of rfl (show fm + p < 2147483648 by omega) hg1, ↓bx_of hi1 (show fm + p + 1 < 2147483648 by omega) hg2, ↓cI_of hcap, c3, show (61 : Int32) = nI 61 from rfl, ↓hsub, ↓hi2, ↓reduceIte, n_ltT, n_ltF, n_leT, n_leF, n_eqT, n_eqF, nI_1, u_lt, u_le, u_eq, u_add, u_ix, u_ixL, u_ixR, u_cl, u_nm1, u_nm1', u_m1l, u_m1n, u_l0, Option.bind_some, Option.map_some, not_true_eq_false, not_false_eq_true, true_and, and_true, Nat.add_sub_cancel, Bool.false_eq_true, u_nar2, b2_t]
            rw [hloop]
            exact hend
          · intro j hj
            have g6j := g6 j hj
            subst hF1
            simp only [fx_II, fx_AA, fx_LL, fx_I_1, fx_I_A, fx_I_L, fx_I_R, fx_I_Q, fx_A_1, fx_A_A, fx_A_L, fx_A_R, fx_A_Q, fx_L_1, fx_L_A, fx_L_L, fx_L_R, fx_L_Q, fx_R_1, fx_R_A, fx_R_L, fx_R_R, fx_R_Q, fx_Q_1, fx_Q_A, fx_Q_L, fx_Q_R, fx_Q_Q, Bool.false_eq_true, Option.bind_some, Option.map_some, rb_cI, rb_cL, rb_cR, rb_cV, reduceIte, ite_true, ite_false, not_true_eq_false, not_false_eq_true, true_and, and_true, Nat.reduceEqDiff, Nat.reduceAdd, Nat.reduceMul, Nat.add_sub_cancel]
            rw [set_get (by omega), set_get (by omega), set_get (by omega)]
            show _ = some (nI (if up1 (rDf R) m (some (slc T (fm + v) (fm + e))) j = none then 0 else 1)) ∧ ∀ w, up1 (rDf R) m (some (slc T (fm + v) (fm + e))) j = some w → _
            by_cases ej : j = m
            · rw [if_pos ej, if_pos ej, if_pos ej, ej, up1_eq]
              refine ⟨rfl, fun w hw => ?_⟩
              injection hw with hw
              exact ⟨fm + v, fm + e, rfl, rfl, by omega, by omega, hw.symm⟩
            · rw [if_neg ej, if_neg ej, if_neg ej, up1_ne ej]
              exact g6j
        · have hx : x_ln2 gv R (slc T fm to) p e = x_ruleT gv R (slc (slc T fm to) p e) := by
            unfold x_ln2
            rw [if_neg e0, hs2, if_neg (fun h => c3 h.2.2)]
          rw [hx]
          refine ⟨F', ?_, a2⟩
          rw [← a1]
          have hi1 : nI (fm + p) + (1 : Int32) = nI (fm + p + 1) := by
            rw [u_l1, u_add]
          unfold f_M_readLine_j101
          simp (disch := omega) only [↓fx_bm, ↓bx_of rfl (show fm + p < 2147483648 by omega) hg1, ↓bx_of hi1 (show fm + p + 1 < 2147483648 by omega) hg2, ↓cI_of hcap, c3, show (61 : Int32) = nI 61 from rfl, ↓reduceIte, n_ltT, n_ltF, n_leT, n_leF, n_eqT, n_eqF, nI_1, u_lt, u_le, u_eq, u_add, u_ix, u_ixL, u_ixR, u_cl, u_nm1, u_nm1', u_m1l, u_m1n, u_l0, Option.bind_some, Option.map_some, not_true_eq_false, not_false_eq_true, true_and, and_true, Nat.add_sub_cancel, Bool.false_eq_true, u_nar2]
      · have hx : x_ln2 gv R (slc T fm to) p e = x_ruleT gv R (slc (slc T fm to) p e) := by
          unfold x_ln2
          rw [if_neg e0, if_neg (fun h => c2 h.2.1)]
        rw [hx]
        refine ⟨F', ?_, a2⟩
        rw [← a1]
        unfold f_M_readLine_j101
        simp (disch := omega) only [↓fx_bm, ↓bx_of rfl (show fm + p < 2147483648 by omega) hg1, ↓cI_of hcap, ↓reduceIte, n_ltT, n_ltF, n_leT, n_leF, n_eqT, n_eqF, nI_1, u_lt, u_le, u_eq, u_add, u_ix, u_ixL, u_ixR, u_cl, u_nm1, u_nm1', u_m1l, u_m1n, u_l0, Option.bind_some, Option.map_some, not_true_eq_false, not_false_eq_true, true_and, and_true, Nat.add_sub_cancel, Bool.false_eq_true, u_nar2]
    · rw [if_neg c1] at hcap
      have hx : x_ln2 gv R (slc T fm to) p e = x_ruleT gv R (slc (slc T fm to) p e) := by
        unfold x_ln2
        rw [if_neg e0, hs1, if_neg (fun h => c1 h.1)]
      rw [hx]
      refine ⟨F', ?_, a2⟩
      rw [← a1]
      unfold f_M_readLine_j101
      simp (disch := omega) only [↓fx_bm, ↓bx_of rfl (show fm + p < 2147483648 by omega) hg1, ↓cI_of hcap, ↓reduceIte, n_ltT, n_ltF, n_leT, n_leF, n_eqT, n_eqF, nI_1, u_lt, u_le, u_eq, u_add, u_ix, u_ixL, u_ixR, u_cl, u_nm1, u_nm1', u_m1l, u_m1n, u_l0, Option.bind_some, Option.map_some, not_true_eq_false, not_false_eq_true, true_and, and_true, Nat.add_sub_cancel, Bool.false_eq_true, u_nar2]
theorem m_readLine (hb : rb_b σ ≤ b) (hF : fx_ln F) {R : RS} (hR : rok R) (hE : eok R) (hl : rNu R 0 < 1000) (hm : m_rules F T R) (hT : m_text F T) (hT3 : T.length ≤ 320) (hTk : tk T) (hg : m_given F gv) (hgo : gok gv) {fm to : Nat} (hft : fm ≤ to) (hto : to ≤ T.length) : ∃ F', f_M_readLine (some (fx_ad b 34)) (nI fm) (nI to) (fx_mk σ b F) = some (some (.int (nI (b2 (x_line gv R (slc T fm to)).1))), fx_mk σ b F') ∧ m_res T F F' (x_line gv R (slc T fm to)) := by
  have hlen := slc_len (p := fm) hto
  have hat : ∀ k, k < to - fm → (slc T fm to).getD k 0 = T.getD (fm + k) 0 := fun k hk => slc_get hk
  rw [x_line_eq]
  by_cases htab : (slc T fm to).head? = some 9
  · rw [if_pos htab]
    have hlt : fm < to := by
      cases hn : Nat.decLt fm to with
      | isTrue h => exact h
      | isFalse h =>
        have : (slc T fm to) = [] := List.eq_nil_of_length_eq_zero (by omega)
        rw [this] at htab
        cases htab
    have h9 : T.getD fm 0 = 9 := by
      have := hat 0 (by omega)
      rw [List.getD_eq_getElem?_getD, ← List.head?_eq_getElem?, htab] at this
      exact this.symm
    have hg1 := rk_getD hT (i := fm) (by omega)
    rw [h9] at hg1
    obtain ⟨F', a1, a2, a3, a4⟩ := m_command (σ := σ) (b := b) hb hF hR hm (p := fm + 1) (q := to) (by omega) hto
    rw [slc_drop2]
    have hn := m_names_fr (N := rN R) hm.1 a4 (by decide)
    refine ⟨F', ?_, ⟨fun _ => a2, a2.1, a3, fr_mono a4 (by decide) (by decide) (by decide)⟩⟩
    have a1' : f_M_command (some (fx_ad b 34)) (nI fm + (1 : Int32)) (nI to) (fx_mk σ b F) = some (some (.int (nI (b2 (x_cmd R (slc T (fm + 1) to)).1))), fx_mk σ b F') := by
      rw [u_l1, u_add]
      exact a1
    unfold f_M_readLine
    simp (disch := omega) only [↓fx_bm, ↓bx_of rfl (show fm < 2147483648 by omega) hg1, show (9 : Int32) = nI 9 from rfl, ↓reduceIte, n_ltT, n_ltF, n_leT, n_leF, n_eqT, n_eqF, nI_1, u_lt, u_le, u_eq, u_add, u_ix, u_ixL, u_ixR, u_cl, u_nm1, u_nm1', u_m1l, u_m1n, u_l0, Option.bind_some, Option.map_some, not_true_eq_false, not_false_eq_true, true_and, and_true, Nat.add_sub_cancel, Bool.false_eq_true, u_nar2, ↓cI_of a1', if_pos (isZ_b2 _)]
  · rw [if_neg htab, hlen]
    have hfc : fi (fun k => decide (T.getD k 0 = 35)) to fm = fm + fi (fun k => decide ((slc T fm to).getD k 0 = 35)) (to - fm) 0 := by
      have := fi_shift (fun k => decide (T.getD k 0 = 35)) (q := fm) (e := to) (k := 0) hft
      rw [Nat.add_zero] at this
      rw [this]
      congr 1
      refine fi_congr (fun j h1 h2 => ?_)
      rw [hat j h2]
    have hc := (fi_le (P := fun k => decide ((slc T fm to).getD k 0 = 35)) (n := to - fm) (k := 0) (by omega)).2
    generalize fi (fun k => decide ((slc T fm to).getD k 0 = 35)) (to - fm) 0 = c at hfc hc ⊢
    have hfp : fi (fun k => decide (¬ T.getD k 0 = 32)) (fm + c) fm = fm + fi (fun k => decide (¬ (slc T fm to).getD k 0 = 32)) c 0 := by
      have := fi_shift (fun k => decide (¬ T.getD k 0 = 32)) (q := fm) (e := fm + c) (k := 0) (by omega)
      rw [Nat.add_zero, Nat.add_sub_cancel_left] at this
      rw [this]
      congr 1
      refine fi_congr (fun j h1 h2 => ?_)
      rw [hat j (by omega)]
    have hp := (fi_le (P := fun k => decide (¬ (slc T fm to).getD k 0 = 32)) (n := c) (k := 0) (by omega)).2
    generalize fi (fun k => decide (¬ (slc T fm to).getD k 0 = 32)) c 0 = p at hfp hp ⊢
    have hbk := bk_le (slc T fm to) p c
    have hback := m_readBack (σ := σ) (b := b) hT hT3 hTk (fm := fm) (p := p) hto c hp (by omega)
    obtain ⟨F', a1, a2⟩ := m_lineEnd (σ := σ) (b := b) hb hF hR hE hl hm hT hT3 hTk hg hgo hft hto (hbk.2 hp) (show fm + bk (slc T fm to) p c ≤ to by have := hbk.1; omega)
    refine ⟨F', ?_, a2⟩
    have h52 : f_M_readLine_j49 (some (fx_ad b 34)) (nI fm) (nI (fm + c)) (fx_mk σ b F) = some (some (.int (nI (b2 (x_ln2 gv R (slc T fm to) p (bk (slc T fm to) p c)).1))), fx_mk σ b F') := by
      rw [← a1, ← hback, ← hfp]
      unfold f_M_readLine_j49
      refine it_fim (n := fm + c) (fun k => decide (¬ T.getD k 0 = 32)) (fun k => rb_it (fun z : (Int32) => f_M_readLine_b76 (some (fx_ad b 34)) (z) (nI k) (fx_mk σ b F)) (nI (fm + c))) ?_ ?_ (by omega)
      · intro k hk
        have hgk := rk_getD hT (i := k) (by omega)
        have htk := ty_lt (tk_get hTk (k := k) (by omega))
        unfold f_M_readLine_b52
        by_cases ek : T.getD k 0 = 32
        · simp (disch := omega) only [↓fx_bm, ↓bx_of rfl (show k < 2147483648 by omega) hgk, ek, show (32 : Int32) = nI 32 from rfl, decide_false, ↓reduceIte, n_ltT, n_ltF, n_leT, n_leF, n_eqT, n_eqF, nI_1, u_lt, u_le, u_eq, u_add, u_ix, u_ixL, u_ixR, u_cl, u_nm1, u_nm1', u_m1l, u_m1n, u_l0, Option.bind_some, Option.map_some, not_true_eq_false, not_false_eq_true, true_and, and_true, Nat.add_sub_cancel, Bool.false_eq_true, u_nar2]
        · simp (disch := omega) only [↓fx_bm, ↓bx_of rfl (show k < 2147483648 by omega) hgk, ek, show (32 : Int32) = nI 32 from rfl, decide_true, ↓reduceIte, n_ltT, n_ltF, n_leT, n_leF, n_eqT, n_eqF, nI_1, u_lt, u_le, u_eq, u_add, u_ix, u_ixL, u_ixR, u_cl, u_nm1, u_nm1', u_m1l, u_m1n, u_l0, Option.bind_some, Option.map_some, not_true_eq_false, not_false_eq_true, true_and, and_true, Nat.add_sub_cancel, Bool.false_eq_true, u_nar2]
      · unfold f_M_readLine_b52
        simp (disch := omega) only [↓reduceIte, n_ltT, n_ltF, n_leT, n_leF, n_eqT, n_eqF, nI_1, u_lt, u_le, u_eq, u_add, u_ix, u_ixL, u_ixR, u_cl, u_nm1, u_nm1', u_m1l, u_m1n, u_l0, Option.bind_some, Option.map_some, not_true_eq_false, not_false_eq_true, true_and, and_true, Nat.add_sub_cancel, Bool.false_eq_true, u_nar2]
    have h27 : rb_it (fun z : (Int32) => f_M_readLine_b27 (some (fx_ad b 34)) (nI fm) (nI to) (z) (fx_mk σ b F)) (nI fm) = some (some (.int (nI (b2 (x_ln2 gv R (slc T fm to) p (bk (slc T fm to) p c)).1))), fx_mk σ b F') := by
      rw [← h52, ← hfc]
      refine it_fim (n := to) (fun k => decide (T.getD k 0 = 35)) (fun k => f_M_readLine_j49 (some (fx_ad b 34)) (nI fm) (nI k) (fx_mk σ b F)) ?_ ?_ hft
      · intro k hk
        have hgk := rk_getD hT (i := k) (by omega)
        have htk := ty_lt (tk_get hTk (k := k) (by omega))
        unfold f_M_readLine_b27
        by_cases ek : T.getD k 0 = 35
        · simp (disch := omega) only [↓fx_bm, ↓bx_of rfl (show k < 2147483648 by omega) hgk, ek, show (35 : Int32) = nI 35 from rfl, decide_true, ↓reduceIte, n_ltT, n_ltF, n_leT, n_leF, n_eqT, n_eqF, nI_1, u_lt, u_le, u_eq, u_add, u_ix, u_ixL, u_ixR, u_cl, u_nm1, u_nm1', u_m1l, u_m1n, u_l0, Option.bind_some, Option.map_some, not_true_eq_false, not_false_eq_true, true_and, and_true, Nat.add_sub_cancel, Bool.false_eq_true, u_nar2]
        · simp (disch := omega) only [↓fx_bm, ↓bx_of rfl (show k < 2147483648 by omega) hgk, ek, show (35 : Int32) = nI 35 from rfl, decide_false, ↓reduceIte, n_ltT, n_ltF, n_leT, n_leF, n_eqT, n_eqF, nI_1, u_lt, u_le, u_eq, u_add, u_ix, u_ixL, u_ixR, u_cl, u_nm1, u_nm1', u_m1l, u_m1n, u_l0, Option.bind_some, Option.map_some, not_true_eq_false, not_false_eq_true, true_and, and_true, Nat.add_sub_cancel, Bool.false_eq_true, u_nar2]
      · unfold f_M_readLine_b27
        simp (disch := omega) only [↓reduceIte, n_ltT, n_ltF, n_leT, n_leF, n_eqT, n_eqF, nI_1, u_lt, u_le, u_eq, u_add, u_ix, u_ixL, u_ixR, u_cl, u_nm1, u_nm1', u_m1l, u_m1n, u_l0, Option.bind_some, Option.map_some, not_true_eq_false, not_false_eq_true, true_and, and_true, Nat.add_sub_cancel, Bool.false_eq_true, u_nar2]
    unfold f_M_readLine
    by_cases hlt : fm < to
    · have hg1 := rk_getD hT (i := fm) (by omega)
      have hty := ty_lt (tk_get hTk (k := fm) (by omega))
      have h9 : ¬ T.getD fm 0 = 9 := fun h => htab (by
        have h0 := hat 0 (by omega)
        rw [Nat.add_zero, h] at h0
        rw [List.head?_eq_getElem?, List.getElem?_eq_getElem (by omega), ← getD_get (d := 0) (by omega), h0])
      simp (disch := omega) only [↓fx_bm, ↓bx_of rfl (show fm < 2147483648 by omega) hg1, show (9 : Int32) = nI 9 from rfl, h9, ↓reduceIte, n_ltT, n_ltF, n_leT, n_leF, n_eqT, n_eqF, nI_1, u_lt, u_le, u_eq, u_add, u_ix, u_ixL, u_ixR, u_cl, u_nm1, u_nm1', u_m1l, u_m1n, u_l0, Option.bind_some, Option.map_some, not_true_eq_false, not_false_eq_true, true_and, and_true, Nat.add_sub_cancel, Bool.false_eq_true, u_nar2]
      exact h27
    · simp (disch := omega) only [↓reduceIte, n_ltT, n_ltF, n_leT, n_leF, n_eqT, n_eqF, nI_1, u_lt, u_le, u_eq, u_add, u_ix, u_ixL, u_ixR, u_cl, u_nm1, u_nm1', u_m1l, u_m1n, u_l0, Option.bind_some, Option.map_some, not_true_eq_false, not_false_eq_true, true_and, and_true, Nat.add_sub_cancel, Bool.false_eq_true, u_nar2]
      exact h27
end
