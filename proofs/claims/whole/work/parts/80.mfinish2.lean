/-! the reference: finish -/
section
variable {σ : rb_St} {b : Nat} {F : fx_F} {T : List Nat} {gv : Nat → Option (List Nat)} {R : RS}
theorem m_finish (hb : rb_b σ ≤ b) (hF : fx_ln F) (hR : rok R) {w : Nat} (hw : w < 64) (hT3 : T.length ≤ 320) (hTk : tk T) (hgo : gok gv) {S : BS} (hP : pok S.1) (hfk : pfk S.1) (hck : pC S.1 < 2147483648) (hg3 : ∀ j, bG S j ≤ 3) {t : Nat} (ht : t < (pN S.1).length) {ch : CH} (hc : chok (pN S.1) ch) (hdl : ∀ d, d ∈ x_deps R ch t → d < (pN S.1).length) (hB : m_bg T gv R w F S) (hch : m_ch F t ch) : ∃ F', f_M_finish (some (fx_ad b 34)) (nI t) (fx_mk σ b F) = some (some (.int (nI (bG (x_fin R gv w t ch S) t))), fx_mk σ b F') ∧ m_bx T gv R w F' (x_fin R gv w t ch S).1 (x_fin R gv w t ch S).2.1 ∧ F'.1 3469 = nI (b2 (x_fin R gv w t ch S).2.2.1) ∧ fx_ln F' ∧ fr zFi zFa [36] F F' := by
  have hl := rok_prk hR
  have hN := hP.1
  have ht32 : t < 32 := Nat.lt_of_lt_of_le ht hN.1
  have hc32 : ∀ x, ch.2.1 = some x → x.1 < 32 := fun x hx => Nat.lt_of_lt_of_le (hc.1 x hx).1 hN.1
  have hnl : (x_nw S t (x_deps R ch t)).length = (x_deps R ch t).length := by
    unfold x_nw
    rw [List.length_map]
  obtain ⟨i1, i2, i3⟩ := hB.1.2.2.2.1.2 t ht32
  have hph : (F.2.1 49)[t]? = some (nI (b2 (rFl R 1 t))) := (hB.1.1.2.2.2.2.2.2.2.1 t ht32).2.1
  obtain ⟨F1, a1, a2, a3, a4⟩ := m_finLoop (σ := σ) (b := b) (T := T) (gv := gv) hb hR (w := w) hN hfk hck hg3 ht hc (x_deps R ch t).length 0 F (decide ((pF S.1 t).1 = 0) || rFl R 1 t) (by omega) hF hB hch
  rw [List.drop_zero] at a1
  have hdep : f_M_dependency (some (fx_ad b 34)) (nI t) (0 : Int32) (fx_mk σ b F) = some (some (.int (oi (x_deps R ch t)[0]?)), fx_mk σ b F) := m_dependency (σ := σ) (b := b) hl hB.1.1.2.2.2.2.1 (ch := ch) ht32 hch.1 hc32 (k := 0) (by omega)
  have hst : f_M_finish (some (fx_ad b 34)) (nI t) (fx_mk σ b F) = rb_it (fun z : (Int32 × Int32 × Int32 × rb_St) => f_M_finish_b34 (some (fx_ad b 34)) (nI t) (z.1) (z.2.1) (z.2.2.1) z.2.2.2) (nI (b2 (decide ((pF S.1 t).1 = 0) || rFl R 1 t)), oi (x_deps R ch t)[0]?, nI 0, fx_mk σ b F) := by
    have h23 : ∀ x : Int32, f_M_finish_j23 (some (fx_ad b 34)) (nI t) x (fx_mk σ b F) = rb_it (fun z : (Int32 × Int32 × Int32 × rb_St) => f_M_finish_b34 (some (fx_ad b 34)) (nI t) (z.1) (z.2.1) (z.2.2.1) z.2.2.2) (x, oi (x_deps R ch t)[0]?, nI 0, fx_mk σ b F) := fun x => by
      unfold f_M_finish_j23
      simp only [↓fx_bm, ↓cI_of hdep]
      rfl
    unfold f_M_finish f_M_finish_j18
    by_cases e : (pF S.1 t).1 = 0
    · rw [if_pos e] at i1
      rw [decide_eq_true e, Bool.true_or, ← h23, b2_t]
      simp (disch := omega) only [↓fx_bm, ↓bx_of rfl (show t < 2147483648 by omega) i1, ↓reduceIte, n_ltT, n_ltF, n_leT, n_leF, n_eqT, n_eqF, nI_1, u_lt, u_le, u_eq, u_add, u_ix, u_ixL, u_ixR, u_cl, u_nm1, u_nm1', u_m1l, u_m1n, u_l0, Option.bind_some, Option.map_some, not_true_eq_false, not_false_eq_true, true_and, and_true, Nat.add_sub_cancel, Bool.false_eq_true, u_nar2, u_l1]
    · rw [if_neg e] at i1
      rw [decide_eq_false e, Bool.false_or, ← h23]
      cases hp : rFl R 1 t
      · rw [hp, b2_f] at hph
        simp (disch := omega) only [↓fx_bm, ↓bx_of rfl (show t < 2147483648 by omega) i1, ↓bx_of rfl (show t < 2147483648 by omega) hph, ↓reduceIte, n_ltT, n_ltF, n_leT, n_leF, n_eqT, n_eqF, nI_1, u_lt, u_le, u_eq, u_add, u_ix, u_ixL, u_ixR, u_cl, u_nm1, u_nm1', u_m1l, u_m1n, u_l0, Option.bind_some, Option.map_some, not_true_eq_false, not_false_eq_true, true_and, and_true, Nat.add_sub_cancel, Bool.false_eq_true, u_nar2, b2_f]
      · rw [hp, b2_t] at hph
        simp (disch := omega) only [↓fx_bm, ↓bx_of rfl (show t < 2147483648 by omega) i1, ↓bx_of rfl (show t < 2147483648 by omega) hph, ↓reduceIte, n_ltT, n_ltF, n_leT, n_leF, n_eqT, n_eqF, nI_1, u_lt, u_le, u_eq, u_add, u_ix, u_ixL, u_ixR, u_cl, u_nm1, u_nm1', u_m1l, u_m1n, u_l0, Option.bind_some, Option.map_some, not_true_eq_false, not_false_eq_true, true_and, and_true, Nat.add_sub_cancel, Bool.false_eq_true, u_nar2, b2_t, u_l1]
  rw [hst, a1]
  have hB1 : m_bg T gv R w F1 S := ⟨m_bx_fr hB.1 a4 (by decide) (by decide) (by decide), (a4.1 3469 (by decide)).trans hB.2.1, m_fates_fr hB.2.2 a4 (by decide)⟩
  have hch1 := m_ch_fr hch a4 (by decide)
  have hfr1 : fr zFi zFa [36] F F1 := fr_mono a4 (by decide) (by decide) (by decide)
  by_cases hout : (pF S.1 t).1 = 0 ∨ rFl R 1 t = true ∨ true ∈ x_nw S t (x_deps R ch t)
  · have hx : x_fin R gv w t ch S = ((x_carries R gv w t ch (x_deps R ch t) (x_nw S t (x_deps R ch t)) (x_cmds R ch) (x_touched R w t ch S.1) S.2.1).2.1, (x_carries R gv w t ch (x_deps R ch t) (x_nw S t (x_deps R ch t)) (x_cmds R ch) (x_touched R w t ch S.1) S.2.1).2.2, true, up1 (bG S) t (if (x_carries R gv w t ch (x_deps R ch t) (x_nw S t (x_deps R ch t)) (x_cmds R ch) (x_touched R w t ch S.1) S.2.1).1 = true then 2 else 3)) := if_pos hout
    have ho : (decide ((pF S.1 t).1 = 0) || rFl R 1 t || decide (true ∈ x_nw S t (x_deps R ch t))) = true := by
      rcases hout with h | h | h
      · rw [decide_eq_true h]; rfl
      · rw [h]; simp
      · rw [decide_eq_true h]; simp
    rw [ho, b2_t, hx]
    generalize hF2 : fx_I (fx_I F1 3469 (nI 1)) 3468 (nI t) = F2
    have hfr2 : fr [3468, 3469] [] [] F1 F2 := by
      subst hF2
      exact fr_I (fr_I (fr_refl _ _ _ _) (by decide)) (by decide)
    have hln2 : fx_ln F2 := by
      subst hF2
      exact fx_lnI (fx_lnI a3)
    have hc68 : F2.1 3468 = nI t := by
      subst hF2
      rw [fx_I_1, if_pos rfl]
    have hc69 : F2.1 3469 = nI 1 := by
      subst hF2
      simp only [fx_II, fx_AA, fx_LL, fx_I_1, fx_I_A, fx_I_L, fx_I_R, fx_I_Q, fx_A_1, fx_A_A, fx_A_L, fx_A_R, fx_A_Q, fx_L_1, fx_L_A, fx_L_L, fx_L_R, fx_L_Q, fx_R_1, fx_R_A, fx_R_L, fx_R_R, fx_R_Q, fx_Q_1, fx_Q_A, fx_Q_L, fx_Q_R, fx_Q_Q, Bool.false_eq_true, Option.bind_some, Option.map_some, rb_cI, rb_cL, rb_cR, rb_cV, reduceIte, ite_true, ite_false, not_true_eq_false, not_false_eq_true, true_and, and_true, Nat.reduceEqDiff, Nat.reduceAdd, Nat.reduceMul, Nat.add_sub_cancel]
    have hB2 := m_bx_fr hB1.1 hfr2 (by decide) (by decide) (by decide)
    have hO : m_on T gv R w t ch (x_nw S t (x_deps R ch t)) F2 S.1 S.2.1 := by
      refine ⟨hB2, hP, ⟨hB2.1.1, hB2.1.2.2.2.2.1, m_ch_fr hch1 hfr2 (by decide), hc68, fun i hi => ?_⟩, ht, hc, hdl, hnl.symm⟩
      rw [hfr2.2.1 81 (by decide), a2 i (by omega), if_pos (Nat.zero_le _)]
    obtain ⟨F3, c1, c2, c3, c4⟩ := m_carryOut (σ := σ) (b := b) hb hln2 hw hT3 hTk hgo hR hO
    refine ⟨F3, ?_, c2.1, ?_, c3, fr_trans hfr1 (fr_trans (fr_mono hfr2 (by decide) (by decide) (by decide)) (fr_mono c4 (by decide) (by decide) (by decide)))⟩
    · have hup : bG (((x_carries R gv w t ch (x_deps R ch t) (x_nw S t (x_deps R ch t)) (x_cmds R ch) (x_touched R w t ch S.1) S.2.1).2.1, (x_carries R gv w t ch (x_deps R ch t) (x_nw S t (x_deps R ch t)) (x_cmds R ch) (x_touched R w t ch S.1) S.2.1).2.2, true, up1 (bG S) t (if (x_carries R gv w t ch (x_deps R ch t) (x_nw S t (x_deps R ch t)) (x_cmds R ch) (x_touched R w t ch S.1) S.2.1).1 = true then 2 else 3)) : BS) t = if (x_carries R gv w t ch (x_deps R ch t) (x_nw S t (x_deps R ch t)) (x_cmds R ch) (x_touched R w t ch S.1) S.2.1).1 = true then 2 else 3 := up1_eq _ _ _
      rw [hup]
      refine rb_it_m ?_
      show f_M_finish_b34 _ _ _ _ _ _ = _
      have c1' : f_M_carryOut (some (fx_ad b 34)) (nI t) (fx_mk σ b (fx_I (fx_I F1 3469 (1 : Int32)) 3468 (nI t))) = some (some (.int (nI (b2 (x_carries R gv w t ch (x_deps R ch t) (x_nw S t (x_deps R ch t)) (x_cmds R ch) (x_touched R w t ch S.1) S.2.1).1))), fx_mk σ b F3) := by
        rw [show fx_I (fx_I F1 3469 (1 : Int32)) 3468 (nI t) = F2 from hF2]
        exact c1
      unfold f_M_finish_b34
      rw [if_pos (show (-1 : Int32) < 0 by decide), if_neg (show ¬ nI 1 = 0 by decide)]
      cases hok : (x_carries R gv w t ch (x_deps R ch t) (x_nw S t (x_deps R ch t)) (x_cmds R ch) (x_touched R w t ch S.1) S.2.1).1
      · rw [hok, b2_f] at c1'
        rw [if_neg (show ¬ false = true by decide)]
        simp (disch := omega) only [↓fx_bm, ↓fx_vm hb, u_m10, ↓cI_of c1', show ((1 : Int32) = 0 ∨ (1 : Int32) = 1) = True from eq_true (Or.inr rfl), ↓reduceIte, n_ltT, n_ltF, n_leT, n_leF, n_eqT, n_eqF, nI_1, u_lt, u_le, u_eq, u_add, u_ix, u_ixL, u_ixR, u_cl, u_nm1, u_nm1', u_m1l, u_m1n, u_l0, Option.bind_some, Option.map_some, not_true_eq_false, not_false_eq_true, true_and, and_true, Nat.add_sub_cancel, Bool.false_eq_true, u_nar2, u_l3, u_l1, or_true]
      · rw [hok, b2_t] at c1'
        rw [if_pos rfl]
        simp (disch := omega) only [↓fx_bm, ↓fx_vm hb, u_m10, ↓cI_of c1', show ((1 : Int32) = 0 ∨ (1 : Int32) = 1) = True from eq_true (Or.inr rfl), ↓reduceIte, n_ltT, n_ltF, n_leT, n_leF, n_eqT, n_eqF, nI_1, u_lt, u_le, u_eq, u_add, u_ix, u_ixL, u_ixR, u_cl, u_nm1, u_nm1', u_m1l, u_m1n, u_l0, Option.bind_some, Option.map_some, not_true_eq_false, not_false_eq_true, true_and, and_true, Nat.add_sub_cancel, Bool.false_eq_true, u_nar2, u_l2, u_l1, or_true]
    · rw [c4.1 3469 (by decide)]
      exact hc69
  · have hx : x_fin R gv w t ch S = wG S t 1 := if_neg hout
    have ho : (decide ((pF S.1 t).1 = 0) || rFl R 1 t || decide (true ∈ x_nw S t (x_deps R ch t))) = false := by
      rw [not_or, not_or] at hout
      rw [decide_eq_false hout.1, decide_eq_false hout.2.2, Bool.eq_false_iff.mpr hout.2.1]
      rfl
    rw [ho, b2_f, hx]
    refine ⟨F1, ?_, hB1.1, hB1.2.1, a3, hfr1⟩
    have hup : bG (wG S t 1) t = 1 := up1_eq _ _ _
    rw [hup]
    refine rb_it_r ?_
    show f_M_finish_b34 _ _ _ _ _ _ = _
    unfold f_M_finish_b34
    rw [if_pos (show (-1 : Int32) < 0 by decide), if_pos (show nI 0 = 0 from rfl)]
    rfl
end
