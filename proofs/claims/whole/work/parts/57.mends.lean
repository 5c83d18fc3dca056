/-! the reference: marks, ending rules -/
section
variable {σ : rb_St} {b : Nat} {F : fx_F} {T : List Nat}
theorem m_markLoop (hb : rb_b σ ≤ b) {o : List Nat} (ho : o.length ≤ 120) (hto : tk o) {W : List (Nat × Nat)} (hwo : wok o W) {h : List Nat} (hh : pq_ok h) : ∀ (m k : Nat) (F : fx_F) (R : RS), k + m = W.length → fx_ln F → m_out F o → m_words F W → nok (rN R) → m_rules F T R → rNu R 1 = 1 → ∃ F', rb_it (fun z : (Int32 × rb_St) => f_M_markLine_b66 (some (fx_ad b 34)) (pk h) (z.1) z.2) (nI k, fx_mk σ b F) = some (some (.int (nI (b2 (x_mark h ((wl o W).drop k) R).1))), fx_mk σ b F') ∧ ((x_mark h ((wl o W).drop k) R).1 = true → m_rules F' T (x_mark h ((wl o W).drop k) R).2) ∧ m_names F' (rN (x_mark h ((wl o W).drop k) R).2) ∧ fx_ln F' ∧ fr [3402] [49, 50, 51] [36] F F' := by
  have hw60 := hwo.1
  intro m
  induction m with
  | zero =>
    intro k F R hk hF hmo hw hN hm hk1
    rw [wl_drop0 (by omega)]
    refine ⟨F, ?_, fun _ => hm, hm.1, hF, fr_refl _ _ _ _⟩
    refine rb_it_r ?_
    show f_M_markLine_b66 _ _ _ _ = _
    unfold f_M_markLine_b66 x_mark
    simp (disch := omega) only [↓fx_bm, hw.1, ↓reduceIte, n_ltT, n_ltF, n_leT, n_leF, n_eqT, n_eqF, nI_1, u_lt, u_le, u_eq, u_add, u_ix, u_ixL, u_ixR, u_cl, u_nm1, u_nm1', u_m1l, u_m1n, u_l0, Option.bind_some, Option.map_some, not_true_eq_false, not_false_eq_true, true_and, and_true, Nat.add_sub_cancel, Bool.false_eq_true, u_nar2, b2_t, u_l1]
  | succ m ih =>
    intro k F R hk hF hmo hw hN hm hk1
    have hkW : k < W.length := by omega
    rw [wl_drop hkW]
    have hok := tk_ok (wd_tk hto W k)
    have hword := m_word (F := F) (σ := σ) (b := b) ho hto hmo hwo hw hkW
    generalize wd o W k = w at hok hword ⊢
    obtain ⟨g1, g2, g3, g4, g5, g6, g7, g8, g9, g10, g11, g12⟩ := hm
    obtain ⟨F1, a1, a2, a3, a4⟩ := m_meet (σ := σ) hb hF hN g1 hok
    have hN' := nmeet_ok hN w
    have hlt := @nmeet_lt (rN R) w
    rcases hx : nmeet (rN R) w with ⟨r, N⟩
    rw [hx] at a1 a2 hN' hlt
    cases r with
    | none =>
      have hx2 : x_mark h (w :: (wl o W).drop (k + 1)) R = (false, wN R N) := by
        rw [x_mark, hx]
      rw [hx2]
      refine ⟨F1, ?_, fun h => (by cases h), a2, a3, fr_mono a4 (by decide) (by decide) (by decide)⟩
      refine rb_it_r ?_
      show f_M_markLine_b66 _ _ _ _ = _
      unfold f_M_markLine_b66
      simp (disch := omega) only [↓fx_bm, hw.1, ↓cL_of hword, ↓cI_of a1, ↓reduceIte, n_ltT, n_ltF, n_leT, n_leF, n_eqT, n_eqF, nI_1, u_lt, u_le, u_eq, u_add, u_ix, u_ixL, u_ixR, u_cl, u_nm1, u_nm1', u_m1l, u_m1n, u_l0, Option.bind_some, Option.map_some, not_true_eq_false, not_false_eq_true, true_and, and_true, Nat.add_sub_cancel, Bool.false_eq_true, u_nar2, oi_none, u_0m1, b2_f]
    | some n =>
      have hn : n < N.length := hlt rfl
      have hn32 := hN'.1
      have hn2 : n < 32 := Nat.lt_of_lt_of_le hn hn32
      have g8' : m_fl F1 (rFl R) := m_fl_fr g8 a4 (by decide)
      have hm1 := m_mark1 (σ := σ) (b := b) hb a3 hh (k := k) hn2 (g8' n hn2).2.1 (g8' n hn2).2.2.1 (g8' n hn2).2.2.2
      generalize hF2 : fx_A (fx_A (fx_A F1 49 ((F1.2.1 49).set n (nI (b2 (rFl R 1 n || decide (h = q_PHO)))))) 50 ((F1.2.1 50).set n (nI (b2 (rFl R 2 n || decide (h = q_IGN)))))) 51 ((F1.2.1 51).set n (nI (b2 (rFl R 3 n || decide (h = q_SIL))))) = F2 at hm1
      have hln2 : fx_ln F2 := by
        subst hF2
        repeat' refine fx_lnA ?_ (by rw [List.length_set]; exact a3.1 _)
        exact a3
      have hfr2 : fr [3402] [49, 50, 51] [36] F F2 := by
        refine fr_trans (fr_mono a4 (by decide) (by decide) (by decide)) ?_
        subst hF2
        repeat' refine fr_A ?_ (by decide)
        exact fr_refl _ _ _ _
      have hN2 : m_names F2 N := by
        subst hF2
        exact a2
      have hfl : m_fl F2 (fun i j => rFl R i j || (decide (j = n) && ((decide (i = 1) && decide (h = q_PHO)) || (decide (i = 2) && decide (h = q_IGN)) || (decide (i = 3) && decide (h = q_SIL))))) := by
        intro j hj
        obtain ⟨u0, u1, u2, u3⟩ := g8' j hj
        have h49 := a3.1 49
        have h50 := a3.1 50
        have h51 := a3.1 51
        simp only [fx_cI] at h49 h50 h51
        subst hF2
        simp only [fx_II, fx_AA, fx_LL, fx_I_1, fx_I_A, fx_I_L, fx_I_R, fx_I_Q, fx_A_1, fx_A_A, fx_A_L, fx_A_R, fx_A_Q, fx_L_1, fx_L_A, fx_L_L, fx_L_R, fx_L_Q, fx_R_1, fx_R_A, fx_R_L, fx_R_R, fx_R_Q, fx_Q_1, fx_Q_A, fx_Q_L, fx_Q_R, fx_Q_Q, Bool.false_eq_true, Option.bind_some, Option.map_some, rb_cI, rb_cL, rb_cR, rb_cV, reduceIte, ite_true, ite_false, not_true_eq_false, not_false_eq_true, true_and, and_true, Nat.reduceEqDiff, Nat.reduceAdd, Nat.reduceMul, Nat.add_sub_cancel]
        rw [set_get (by omega), set_get (by omega), set_get (by omega), u0, u1, u2, u3]
        by_cases ej : j = n
        · subst ej
          simp
        · simp [ej]
      have hx2 : x_mark h (w :: (wl o W).drop (k + 1)) R = x_mark h ((wl o W).drop (k + 1)) (wFl (wN R N) (fun i j => rFl R i j || (decide (j = n) && ((decide (i = 1) && decide (h = q_PHO)) || (decide (i = 2) && decide (h = q_IGN)) || (decide (i = 3) && decide (h = q_SIL)))))) := by
        rw [x_mark, hx]
      rw [hx2]
      obtain ⟨F', e1, e2, e3, e4, e5⟩ := ih (k + 1) F2 (wFl (wN R N) (fun i j => rFl R i j || (decide (j = n) && ((decide (i = 1) && decide (h = q_PHO)) || (decide (i = 2) && decide (h = q_IGN)) || (decide (i = 3) && decide (h = q_SIL)))))) (by omega) hln2 (m_out_fr hmo hfr2 (by decide)) (m_words_fr hw hfr2 (by decide)) hN' ⟨hN2, m_sf_fr g2 hfr2 (by decide), m_en_fr g3 hfr2 (by decide), m_cm_fr g4 hfr2 (by decide), m_pr_fr g5 hfr2 (by decide), m_defd_fr g6 hfr2 (by decide), m_ow_fr g7 hfr2 (by decide), hfl, m_op_fr g9 hfr2 (by decide), m_bo_fr g10 hfr2 (by decide), m_nu_fr g11 hfr2 (by decide), ⟨fun h => absurd (hk1.symm.trans h) (by decide), fun h => absurd (hk1.symm.trans h) (by decide)⟩⟩ hk1
      refine ⟨F', ?_, e2, e3, e4, fr_trans hfr2 e5⟩
      rw [← e1]
      refine rb_it_l ?_
      show f_M_markLine_b66 _ _ _ _ = _
      unfold f_M_markLine_b66
      simp (disch := omega) only [↓fx_bm, hw.1, ↓cL_of hword, ↓cI_of a1, n_ltT, n_ltF, n_leT, n_leF, u_lt, u_le, u_l0, oi_some, ↓reduceIte]
      simp (disch := omega) only [↓fx_bm, u_l0] at hm1
      exact hm1
theorem m_markLine (hb : rb_b σ ≤ b) (hF : fx_ln F) {R : RS} (hN : nok (rN R)) (hm : m_rules F T R) (hk1 : rNu R 1 = 1) {o : List Nat} (ho : o.length ≤ 120) (hto : tk o) {W : List (Nat × Nat)} (hwo : wok o W) (h1 : 1 ≤ W.length) (hmo : m_out F o) (hmw : m_words F W) {h : List Nat} (hh : pq_ok h) : ∃ F', f_M_markLine (some (fx_ad b 34)) (pk h) (fx_mk σ b F) = some (some (.int (nI (b2 (x_markL R h (wl o W)).1))), fx_mk σ b F') ∧ m_res T F F' (x_markL R h (wl o W)) := by
  have hw60 := hwo.1
  obtain ⟨g1, g2, g3, g4, g5, g6, g7, g8, g9, g10, g11, g12⟩ := hm
  generalize hbo : (fun i => rBo R i || (decide (W.length = 1) && ((decide (i = 0) && decide (h = q_IGN)) || (decide (i = 1) && decide (h = q_SIL))))) = bo
  generalize hF1 : fx_I (fx_I F 3422 (nI (b2 (bo 0)))) 3423 (nI (b2 (bo 1))) = F1
  have hfr1 : fr [3422, 3423] [] [] F F1 := by
    subst hF1
    exact fr_I (fr_I (fr_refl _ _ _ _) (by decide)) (by decide)
  have hln1 : fx_ln F1 := by
    subst hF1
    exact fx_lnI (fx_lnI hF)
  have hbo1 : m_bo F1 bo := by
    subst hF1
    exact ⟨by simp only [fx_II, fx_AA, fx_LL, fx_I_1, fx_I_A, fx_I_L, fx_I_R, fx_I_Q, fx_A_1, fx_A_A, fx_A_L, fx_A_R, fx_A_Q, fx_L_1, fx_L_A, fx_L_L, fx_L_R, fx_L_Q, fx_R_1, fx_R_A, fx_R_L, fx_R_R, fx_R_Q, fx_Q_1, fx_Q_A, fx_Q_L, fx_Q_R, fx_Q_Q, Bool.false_eq_true, Option.bind_some, Option.map_some, rb_cI, rb_cL, rb_cR, rb_cV, reduceIte, ite_true, ite_false, not_true_eq_false, not_false_eq_true, true_and, and_true, Nat.reduceEqDiff, Nat.reduceAdd, Nat.reduceMul, Nat.add_sub_cancel], by simp only [fx_II, fx_AA, fx_LL, fx_I_1, fx_I_A, fx_I_L, fx_I_R, fx_I_Q, fx_A_1, fx_A_A, fx_A_L, fx_A_R, fx_A_Q, fx_L_1, fx_L_A, fx_L_L, fx_L_R, fx_L_Q, fx_R_1, fx_R_A, fx_R_L, fx_R_R, fx_R_Q, fx_Q_1, fx_Q_A, fx_Q_L, fx_Q_R, fx_Q_Q, Bool.false_eq_true, Option.bind_some, Option.map_some, rb_cI, rb_cL, rb_cR, rb_cV, reduceIte, ite_true, ite_false, not_true_eq_false, not_false_eq_true, true_and, and_true, Nat.reduceEqDiff, Nat.reduceAdd, Nat.reduceMul, Nat.add_sub_cancel]⟩
  have hN1 : m_names F1 (rN R) := m_names_fr g1 hfr1 (by decide)
  obtain ⟨F', e1, e2, e3, e4, e5⟩ := m_markLoop (σ := σ) (b := b) (T := T) hb ho hto hwo hh (W.length - 1) 1 F1 (wBo R bo) (by omega) hln1 (m_out_fr hmo hfr1 (by decide)) (m_words_fr hmw hfr1 (by decide)) hN ⟨hN1, m_sf_fr g2 hfr1 (by decide), m_en_fr g3 hfr1 (by decide), m_cm_fr g4 hfr1 (by decide), m_pr_fr g5 hfr1 (by decide), m_defd_fr g6 hfr1 (by decide), m_ow_fr g7 hfr1 (by decide), m_fl_fr g8 hfr1 (by decide), m_op_fr g9 hfr1 (by decide), hbo1, m_nu_fr g11 hfr1 (by decide), ⟨fun h => absurd (hk1.symm.trans h) (by decide), fun h => absurd (hk1.symm.trans h) (by decide)⟩⟩ hk1
  have hx : x_markL R h (wl o W) = x_mark h ((wl o W).drop 1) (wBo R bo) := by
    unfold x_markL
    rw [wl_len, hbo]
  rw [hx]
  refine ⟨F', ?_, e2, e3, e4, fr_trans (fr_mono hfr1 (by decide) (by decide) (by decide)) (fr_mono e5 (by decide) (by decide) (by decide))⟩
  rw [← e1]
  have hb0 : b2 (bo 0) < 2 := b2_lt _
  have q1 := g10.1
  have q2 := g10.2
  have j29 : ∀ x : Bool, x = bo 0 → f_M_markLine_j29 (some (fx_ad b 34)) (pk h) (nI (b2 x)) (some (fx_ad b 34)) (fx_mk σ b F) = rb_it (fun z : (Int32 × rb_St) => f_M_markLine_b66 (some (fx_ad b 34)) (pk h) (z.1) z.2) (nI 1, fx_mk σ b F1) := by
    intro x hxb
    subst hF1
    rw [hxb]
    unfold f_M_markLine_j29
    have hz := isZ_b2 (bo 0)
    have hz2 : (b2 (bo 0) = 0 ∨ b2 (bo 0) = 1) = True := eq_true (by cases bo 0 <;> decide)
    have hb1 : bo 1 = (rBo R 1 || (decide (W.length = 1) && decide (h = q_SIL))) := by
      rw [← hbo]
      simp
    rw [hb1]
    have hm1 := hmw.1
    cases hr : rBo R 1
    · rw [hr] at q2
      by_cases e : h = q_SIL
      · by_cases el : W.length = 1
        · rw [el] at hm1
          simp (disch := omega) only [↓fx_bm, ↓fx_vm hb, if_pos hz, q2, hm1, ↓c_SIL hh, e, el, b2_f, b2_t, u_l1, decide_true, Bool.and_true, Bool.false_or, fx_II, fx_AA, fx_LL, fx_I_1, fx_I_A, fx_I_L, fx_I_R, fx_I_Q, fx_A_1, fx_A_A, fx_A_L, fx_A_R, fx_A_Q, fx_L_1, fx_L_A, fx_L_L, fx_L_R, fx_L_Q, fx_R_1, fx_R_A, fx_R_L, fx_R_R, fx_R_Q, fx_Q_1, fx_Q_A, fx_Q_L, fx_Q_R, fx_Q_Q, Nat.reduceEqDiff, true_or, or_true, hz2, ↓reduceIte, n_ltT, n_ltF, n_leT, n_leF, n_eqT, n_eqF, nI_1, u_lt, u_le, u_eq, u_add, u_ix, u_ixL, u_ixR, u_cl, u_nm1, u_nm1', u_m1l, u_m1n, u_l0, Option.bind_some, Option.map_some, not_true_eq_false, not_false_eq_true, true_and, and_true, Nat.add_sub_cancel, Bool.false_eq_true, u_nar2]
        · simp (disch := omega) only [↓fx_bm, ↓fx_vm hb, if_pos hz, q2, hm1, ↓c_SIL hh, e, el, b2_f, b2_t, u_l1, decide_false, Bool.false_and, Bool.false_or, fx_II, fx_AA, fx_LL, fx_I_1, fx_I_A, fx_I_L, fx_I_R, fx_I_Q, fx_A_1, fx_A_A, fx_A_L, fx_A_R, fx_A_Q, fx_L_1, fx_L_A, fx_L_L, fx_L_R, fx_L_Q, fx_R_1, fx_R_A, fx_R_L, fx_R_R, fx_R_Q, fx_Q_1, fx_Q_A, fx_Q_L, fx_Q_R, fx_Q_Q, Nat.reduceEqDiff, true_or, or_true, hz2, ↓reduceIte, n_ltT, n_ltF, n_leT, n_leF, n_eqT, n_eqF, nI_1, u_lt, u_le, u_eq, u_add, u_ix, u_ixL, u_ixR, u_cl, u_nm1, u_nm1', u_m1l, u_m1n, u_l0, Option.bind_some, Option.map_some, not_true_eq_false, not_false_eq_true, true_and, and_true, Nat.add_sub_cancel, Bool.false_eq_true, u_nar2]
      · simp (disch := omega) only [↓fx_bm, ↓fx_vm hb, if_pos hz, q2, ↓c_SIL hh, e, b2_f, b2_t, u_l1, decide_false, Bool.and_false, Bool.false_or, fx_II, fx_AA, fx_LL, fx_I_1, fx_I_A, fx_I_L, fx_I_R, fx_I_Q, fx_A_1, fx_A_A, fx_A_L, fx_A_R, fx_A_Q, fx_L_1, fx_L_A, fx_L_L, fx_L_R, fx_L_Q, fx_R_1, fx_R_A, fx_R_L, fx_R_R, fx_R_Q, fx_Q_1, fx_Q_A, fx_Q_L, fx_Q_R, fx_Q_Q, Nat.reduceEqDiff, true_or, or_true, hz2, ↓reduceIte, n_ltT, n_ltF, n_leT, n_leF, n_eqT, n_eqF, nI_1, u_lt, u_le, u_eq, u_add, u_ix, u_ixL, u_ixR, u_cl, u_nm1, u_nm1', u_m1l, u_m1n, u_l0, Option.bind_some, Option.map_some, not_true_eq_false, not_false_eq_true, true_and, and_true, Nat.add_sub_cancel, Bool.false_eq_true, u_nar2]
    · rw [hr] at q2
      simp (disch := omega) only [↓fx_bm, ↓fx_vm hb, if_pos hz, q2, b2_f, b2_t, u_l1, Bool.true_or, fx_II, fx_AA, fx_LL, fx_I_1, fx_I_A, fx_I_L, fx_I_R, fx_I_Q, fx_A_1, fx_A_A, fx_A_L, fx_A_R, fx_A_Q, fx_L_1, fx_L_A, fx_L_L, fx_L_R, fx_L_Q, fx_R_1, fx_R_A, fx_R_L, fx_R_R, fx_R_Q, fx_Q_1, fx_Q_A, fx_Q_L, fx_Q_R, fx_Q_Q, Nat.reduceEqDiff, true_or, or_true, hz2, ↓reduceIte, n_ltT, n_ltF, n_leT, n_leF, n_eqT, n_eqF, nI_1, u_lt, u_le, u_eq, u_add, u_ix, u_ixL, u_ixR, u_cl, u_nm1, u_nm1', u_m1l, u_m1n, u_l0, Option.bind_some, Option.map_some, not_true_eq_false, not_false_eq_true, true_and, and_true, Nat.add_sub_cancel, Bool.false_eq_true, u_nar2]
  have hb0' : bo 0 = (rBo R 0 || (decide (W.length = 1) && decide (h = q_IGN))) := by
    rw [← hbo]
    simp
  have hm1 := hmw.1
  unfold f_M_markLine
  cases hr : rBo R 0
  · rw [hr] at q1 hb0'
    by_cases e : h = q_IGN
    · by_cases el : W.length = 1
      · rw [el] at hm1
        have j := j29 true (by rw [hb0', e, el]; rfl)
        rw [← j]
        simp (disch := omega) only [↓fx_bm, q1, hm1, ↓c_IGN hh, e, b2_f, b2_t, u_l1, f_M_markLine_j24, ↓reduceIte, n_ltT, n_ltF, n_leT, n_leF, n_eqT, n_eqF, nI_1, u_lt, u_le, u_eq, u_add, u_ix, u_ixL, u_ixR, u_cl, u_nm1, u_nm1', u_m1l, u_m1n, u_l0, Option.bind_some, Option.map_some, not_true_eq_false, not_false_eq_true, true_and, and_true, Nat.add_sub_cancel, Bool.false_eq_true, u_nar2]
      · have j := j29 false (by rw [hb0', e, decide_eq_false el]; rfl)
        rw [← j]
        simp (disch := omega) only [↓fx_bm, q1, hm1, ↓c_IGN hh, e, b2_f, b2_t, u_l1, f_M_markLine_j28, ↓reduceIte, n_ltT, n_ltF, n_leT, n_leF, n_eqT, n_eqF, nI_1, u_lt, u_le, u_eq, u_add, u_ix, u_ixL, u_ixR, u_cl, u_nm1, u_nm1', u_m1l, u_m1n, u_l0, Option.bind_some, Option.map_some, not_true_eq_false, not_false_eq_true, true_and, and_true, Nat.add_sub_cancel, Bool.false_eq_true, u_nar2]
    · have j := j29 false (by rw [hb0', decide_eq_false e, Bool.and_false]; rfl)
      rw [← j]
      simp (disch := omega) only [↓fx_bm, q1, ↓c_IGN hh, e, b2_f, b2_t, u_l1, f_M_markLine_j28, ↓reduceIte, n_ltT, n_ltF, n_leT, n_leF, n_eqT, n_eqF, nI_1, u_lt, u_le, u_eq, u_add, u_ix, u_ixL, u_ixR, u_cl, u_nm1, u_nm1', u_m1l, u_m1n, u_l0, Option.bind_some, Option.map_some, not_true_eq_false, not_false_eq_true, true_and, and_true, Nat.add_sub_cancel, Bool.false_eq_true, u_nar2]
  · rw [hr] at q1 hb0'
    have j := j29 true (by rw [hb0']; rfl)
    rw [← j]
    simp (disch := omega) only [↓fx_bm, q1, b2_f, b2_t, u_l1, f_M_markLine_j24, ↓reduceIte, n_ltT, n_ltF, n_leT, n_leF, n_eqT, n_eqF, nI_1, u_lt, u_le, u_eq, u_add, u_ix, u_ixL, u_ixR, u_cl, u_nm1, u_nm1', u_m1l, u_m1n, u_l0, Option.bind_some, Option.map_some, not_true_eq_false, not_false_eq_true, true_and, and_true, Nat.add_sub_cancel, Bool.false_eq_true, u_nar2]
/-- no two ending rules of the same suffixes -/
def eok (R : RS) : Prop := ∀ i j, i < (rEn R).length → j < (rEn R).length → ((rEn R).getD i (([], []), none)).1 = ((rEn R).getD j (([], []), none)).1 → i = j
theorem it_last {body : Int32 × Int32 → Option ((Int32 × Int32) ⊕ rb_Rs)} {n : Nat} (P : Nat → Bool) (τ : rb_St) (hu : ∀ i j, i < n → j < n → P i = true → P j = true → i = j) (h : ∀ (f : Option Nat) k, k < n → body (oi f, nI k) = some (.inl (oi (if P k = true then some k else f), nI (k + 1)))) (he : ∀ f, body (oi f, nI n) = some (.inr (some (.int (oi f)), τ))) : ∀ (m k : Nat) (f : Option Nat), k + m = n → rb_it body (oi f, nI k) = some (some (.int (oi (match sr P m k with | some j => some j | none => f))), τ) := by
  intro m
  induction m with
  | zero =>
    intro k f hk
    have e : k = n := by omega
    subst e
    exact rb_it_r (he f)
  | succ m ih =>
    intro k f hk
    rw [rb_it_l (h f k (by omega)), ih (k + 1) _ (by omega)]
    by_cases e : P k = true
    · rw [sr_pos e, if_pos e]
      cases hs : sr P m (k + 1) with
      | none => rfl
      | some j =>
        obtain ⟨s1, s2, s3⟩ := sr_some hs
        exact absurd (hu k j (by omega) (by omega) e s3) (by omega)
    · rw [sr_neg (by simpa using e), if_neg e]
theorem m_endingOf {en : List ((List Nat × List Nat) × Option Nat)} (h8 : en.length ≤ 8) (hk : ∀ k, k < en.length → sp_name (en.getD k (([], []), none)).1.1 = true ∧ ((en.getD k (([], []), none)).1.2 = [] ∨ sp_name (en.getD k (([], []), none)).1.2 = true)) (hu : ∀ i j, i < en.length → j < en.length → (en.getD i (([], []), none)).1 = (en.getD j (([], []), none)).1 → i = j) (hm : m_en F en) {r s : List Nat} (hr : pq_ok r) (hs : pq_ok s) : f_M_endingOf (some (fx_ad b 34)) (pk r) (pk s) (fx_mk σ b F) = some (some (.int (oi (x_eidx en (r, s)))), fx_mk σ b F) := by
  unfold f_M_endingOf
  have := it_last (body := fun z : Int32 × Int32 => f_M_endingOf_b6 (some (fx_ad b 34)) (pk r) (pk s) z.1 z.2 (fx_mk σ b F)) (n := en.length) (fun k => decide ((en.getD k (([], []), none)).1 = (r, s))) (fx_mk σ b F) ?_ ?_ ?_ en.length 0 none (by omega)
  · refine Eq.trans this ?_
    unfold x_eidx
    cases sr (fun k => decide ((en.getD k (([], []), none)).1 = (r, s))) en.length 0 <;> rfl
  · intro i j hi hj h1 h2
    exact hu i j hi hj ((of_decide_eq_true h1).trans (of_decide_eq_true h2).symm)
  · intro f k hkn
    obtain ⟨k1, k2⟩ := hk k hkn
    obtain ⟨c1, c2, c3⟩ := hm.2 k hkn
    have o1 := sp_name_ok k1
    have o2 : pq_ok (en.getD k (([], []), none)).1.2 ∧ (en.getD k (([], []), none)).1.2.length ≤ 8 := by
      rcases k2 with h | h
      · rw [h]
        exact ⟨fun c hc => (by cases hc), Nat.zero_le _⟩
      · exact ⟨(sp_name_ok h).1, (sp_name_ok h).2.2⟩
    generalize en.getD k (([], []), none) = x at c1 c2 o1 o2 ⊢
    obtain ⟨⟨x1, x2⟩, x3⟩ := x
    show f_M_endingOf_b6 _ _ _ _ _ _ = _
    unfold f_M_endingOf_b6
    by_cases e1 : x1 = r
    · by_cases e2 : x2 = s
      · simp (disch := omega) only [↓fx_bm, hm.1, ↓bL_of rfl (show k < 2147483648 by omega) c1, ↓bL_of rfl (show k < 2147483648 by omega) c2, ↓pk_cmp o1.2.2 o1.1 hr, ↓pk_cmp o2.2 o2.1 hs, e1, e2, decide_true, oi_some, ↓reduceIte, n_ltT, n_ltF, n_leT, n_leF, n_eqT, n_eqF, nI_1, u_lt, u_le, u_eq, u_add, u_ix, u_ixL, u_ixR, u_cl, u_nm1, u_nm1', u_m1l, u_m1n, u_l0, Option.bind_some, Option.map_some, not_true_eq_false, not_false_eq_true, true_and, and_true, Nat.add_sub_cancel, Bool.false_eq_true, u_nar2]
      · simp (disch := omega) only [↓fx_bm, hm.1, ↓bL_of rfl (show k < 2147483648 by omega) c1, ↓bL_of rfl (show k < 2147483648 by omega) c2, ↓pk_cmp o1.2.2 o1.1 hr, ↓pk_cmp o2.2 o2.1 hs, e1, e2, Prod.mk.injEq, and_false, decide_false, oi_some, ↓reduceIte, n_ltT, n_ltF, n_leT, n_leF, n_eqT, n_eqF, nI_1, u_lt, u_le, u_eq, u_add, u_ix, u_ixL, u_ixR, u_cl, u_nm1, u_nm1', u_m1l, u_m1n, u_l0, Option.bind_some, Option.map_some, not_true_eq_false, not_false_eq_true, true_and, and_true, Nat.add_sub_cancel, Bool.false_eq_true, u_nar2]
    · simp (disch := omega) only [↓fx_bm, hm.1, ↓bL_of rfl (show k < 2147483648 by omega) c1, ↓pk_cmp o1.2.2 o1.1 hr, e1, Prod.mk.injEq, false_and, decide_false, oi_some, ↓reduceIte, n_ltT, n_ltF, n_leT, n_leF, n_eqT, n_eqF, nI_1, u_lt, u_le, u_eq, u_add, u_ix, u_ixL, u_ixR, u_cl, u_nm1, u_nm1', u_m1l, u_m1n, u_l0, Option.bind_some, Option.map_some, not_true_eq_false, not_false_eq_true, true_and, and_true, Nat.add_sub_cancel, Bool.false_eq_true, u_nar2]
  · intro f
    show f_M_endingOf_b6 _ _ _ _ _ _ = _
    unfold f_M_endingOf_b6
    simp (disch := omega) only [↓fx_bm, hm.1, ↓reduceIte, n_ltT, n_ltF, n_leT, n_leF, n_eqT, n_eqF, nI_1, u_lt, u_le, u_eq, u_add, u_ix, u_ixL, u_ixR, u_cl, u_nm1, u_nm1', u_m1l, u_m1n, u_l0, Option.bind_some, Option.map_some, not_true_eq_false, not_false_eq_true, true_and, and_true, Nat.add_sub_cancel, Bool.false_eq_true, u_nar2]
theorem m_behind {o : List Nat} (ho : o.length ≤ 120) (hto : tk o) (hmo : m_out F o) {p q : Nat} (hpq : p ≤ q) (hq : q ≤ o.length) {u : List Nat} (hu : u.length ≤ 8) (hok : pq_ok u) : f_M_behind (some (fx_ad b 34)) (nI p) (nI q) (lN (pq u)) (fx_mk σ b F) = some (some (.int (if p + u.length ≤ q ∧ slc o p (p + u.length) = u then nI (p + u.length) else (-1 : Int32))), fx_mk σ b F) := by
  have hlen := m_length (fx_mk σ b F) (w := u) (by omega) hok
  unfold f_M_behind
  by_cases e : p + u.length ≤ q
  · have hpk := m_packed (F := F) (σ := σ) (b := b) ho hto hmo (p := p) (q := p + u.length) (by omega) (by omega)
    have hc := pk2 (a := u) (w := slc o p (p + u.length)) (by omega) hok (tk_ok (slc_tk hto _ _))
    rw [pk_of (w := u) (by omega)] at hc
    replace hc : (lg_cmp (pk (slc o p (p + u.length))) (lN (pq u)) = nI 0) = (slc o p (p + u.length) = u) := hc
    by_cases e2 : slc o p (p + u.length) = u
    · rw [if_pos ⟨e, e2⟩]
      rw [e2] at hc
      simp (disch := omega) only [↓cI_of hlen, u_add, ↓fx_bm, ↓cL_of hpk, hc, e2, ↓reduceIte, n_ltT, n_ltF, n_leT, n_leF, n_eqT, n_eqF, nI_1, u_lt, u_le, u_eq, u_add, u_ix, u_ixL, u_ixR, u_cl, u_nm1, u_nm1', u_m1l, u_m1n, u_l0, Option.bind_some, Option.map_some, not_true_eq_false, not_false_eq_true, true_and, and_true, Nat.add_sub_cancel, Bool.false_eq_true, u_nar2]
    · rw [if_neg (fun h => e2 h.2)]
      simp (disch := omega) only [↓cI_of hlen, u_add, ↓fx_bm, ↓cL_of hpk, hc, e2, ↓reduceIte, n_ltT, n_ltF, n_leT, n_leF, n_eqT, n_eqF, nI_1, u_lt, u_le, u_eq, u_add, u_ix, u_ixL, u_ixR, u_cl, u_nm1, u_nm1', u_m1l, u_m1n, u_l0, Option.bind_some, Option.map_some, not_true_eq_false, not_false_eq_true, true_and, and_true, Nat.add_sub_cancel, Bool.false_eq_true, u_nar2]
  · rw [if_neg (fun h => e h.1)]
    simp (disch := omega) only [↓cI_of hlen, u_add, ↓reduceIte, n_ltT, n_ltF, n_leT, n_leF, n_eqT, n_eqF, nI_1, u_lt, u_le, u_eq, u_add, u_ix, u_ixL, u_ixR, u_cl, u_nm1, u_nm1', u_m1l, u_m1n, u_l0, Option.bind_some, Option.map_some, not_true_eq_false, not_false_eq_true, true_and, and_true, Nat.add_sub_cancel, Bool.false_eq_true, u_nar2]
end
