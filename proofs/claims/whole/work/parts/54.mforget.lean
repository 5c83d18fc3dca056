/-! the reference: forget, suffixes -/
/-- nothing but names -/
def r0 (N : List (List Nat)) : RS := (N, [], [], [], [], fun _ => none, fun _ => none, fun _ _ => false, fun _ => none, fun _ => false, fun _ => 0)
section
variable {σ : rb_St} {b : Nat} {F : fx_F} {T : List Nat}
theorem m_forget1 (hb : rb_b σ ≤ b) : ∀ (m k : Nat) (F : fx_F), k + m = 26 → fx_ln F → (∀ j, j < k → (F.2.1 43)[j]? = some (nI 0)) → ∃ F', rb_it (fun z : (Int32 × rb_St) => f_M_forget_b2 (some (fx_ad b 34)) (z.1) z.2) (nI k, fx_mk σ b F) = rb_it (fun z : (Int32 × rb_St) => f_M_forget_b23 (some (fx_ad b 34)) (z.1) z.2) (nI 0, fx_mk σ b F') ∧ (∀ j, j < 26 → (F'.2.1 43)[j]? = some (nI 0)) ∧ fx_ln F' ∧ fr [] [43] [] F F' := by
  intro m
  induction m with
  | zero =>
    intro k F hk hF h
    refine ⟨F, ?_, fun j hj => h j (by omega), hF, fr_refl _ _ _ _⟩
    refine rb_it_m ?_
    unfold f_M_forget_b2
    simp (disch := omega) only [u_l26, ↓reduceIte, n_ltT, n_ltF, n_leT, n_leF, n_eqT, n_eqF, nI_1, u_lt, u_le, u_eq, u_add, u_ix, u_ixL, u_ixR, u_cl, u_nm1, u_nm1', u_m1l, u_m1n, u_l0, Option.bind_some, Option.map_some, not_true_eq_false, not_false_eq_true, true_and, and_true, Nat.add_sub_cancel, Bool.false_eq_true, u_nar2]
  | succ m ih =>
    intro k F hk hF h
    have h43 := hF.1 43
    simp only [fx_cI] at h43
    obtain ⟨F', e1, e2, e3, e4⟩ := ih (k + 1) (fx_A F 43 ((F.2.1 43).set k (nI 0))) (by omega) (fx_lnA hF (by rw [List.length_set]; exact hF.1 _)) (fun j hj => by
      rw [fx_A_A, if_pos rfl, set_get (by omega)]
      by_cases e : j = k
      · rw [if_pos e]
      · rw [if_neg e]
        exact h j (by omega))
    refine ⟨F', ?_, e2, e3, fr_trans (fr_A (fr_refl _ _ _ _) (by decide)) e4⟩
    rw [← e1]
    refine rb_it_l ?_
    unfold f_M_forget_b2
    simp (disch := omega) only [u_l26, ↓fx_bm, ↓fx_vm hb, ↓reduceIte, n_ltT, n_ltF, n_leT, n_leF, n_eqT, n_eqF, nI_1, u_lt, u_le, u_eq, u_add, u_ix, u_ixL, u_ixR, u_cl, u_nm1, u_nm1', u_m1l, u_m1n, u_l0, Option.bind_some, Option.map_some, not_true_eq_false, not_false_eq_true, true_and, and_true, Nat.add_sub_cancel, Bool.false_eq_true, u_nar2, u_nar4]
theorem m_forget2 (hb : rb_b σ ≤ b) : ∀ (m k : Nat) (F : fx_F), k + m = 32 → fx_ln F → (∀ j, j < k → (F.2.1 49)[j]? = some (nI 0) ∧ (F.2.1 50)[j]? = some (nI 0) ∧ (F.2.1 51)[j]? = some (nI 0) ∧ (F.2.1 52)[j]? = some (nI 0) ∧ (F.2.1 53)[j]? = some (-1 : Int32)) → ∃ F', rb_it (fun z : (Int32 × rb_St) => f_M_forget_b23 (some (fx_ad b 34)) (z.1) z.2) (nI k, fx_mk σ b F) = some (none, fx_mk σ b F') ∧ (∀ j, j < 32 → (F'.2.1 49)[j]? = some (nI 0) ∧ (F'.2.1 50)[j]? = some (nI 0) ∧ (F'.2.1 51)[j]? = some (nI 0) ∧ (F'.2.1 52)[j]? = some (nI 0) ∧ (F'.2.1 53)[j]? = some (-1 : Int32)) ∧ (F'.1 3418 = nI 0 ∧ F'.1 3422 = nI 0 ∧ F'.1 3423 = nI 0 ∧ F'.1 3426 = (-1 : Int32) ∧ F'.1 3429 = nI 0 ∧ F'.1 3433 = nI 0 ∧ F'.1 3437 = nI 0 ∧ F'.1 3438 = (-1 : Int32) ∧ F'.1 3439 = nI 0 ∧ F'.1 3440 = nI 0) ∧ fx_ln F' ∧ fr [3418, 3422, 3423, 3426, 3429, 3433, 3437, 3438, 3439, 3440] [49, 50, 51, 52, 53] [] F F' := by
  intro m
  induction m with
  | zero =>
    intro k F hk hF h
    refine ⟨fx_I (fx_I (fx_I (fx_I (fx_I (fx_I (fx_I (fx_I (fx_I (fx_I F 3418 (nI 0)) 3422 (nI 0)) 3423 (nI 0)) 3426 (-1)) 3429 (nI 0)) 3433 (nI 0)) 3437 (nI 0)) 3438 (-1)) 3439 (nI 0)) 3440 (nI 0), ?_, fun j hj => h j (by omega), ?_, ?_, ?_⟩
    · refine rb_it_r ?_
      unfold f_M_forget_b23
      simp (disch := omega) only [u_l32, ↓fx_bm, ↓fx_vm hb, ↓reduceIte, n_ltT, n_ltF, n_leT, n_leF, n_eqT, n_eqF, nI_1, u_lt, u_le, u_eq, u_add, u_ix, u_ixL, u_ixR, u_cl, u_nm1, u_nm1', u_m1l, u_m1n, u_l0, Option.bind_some, Option.map_some, not_true_eq_false, not_false_eq_true, true_and, and_true, Nat.add_sub_cancel, Bool.false_eq_true, u_nar2, true_or]
    · simp only [fx_II, fx_AA, fx_LL, fx_I_1, fx_I_A, fx_I_L, fx_I_R, fx_I_Q, fx_A_1, fx_A_A, fx_A_L, fx_A_R, fx_A_Q, fx_L_1, fx_L_A, fx_L_L, fx_L_R, fx_L_Q, fx_R_1, fx_R_A, fx_R_L, fx_R_R, fx_R_Q, fx_Q_1, fx_Q_A, fx_Q_L, fx_Q_R, fx_Q_Q, Bool.false_eq_true, Option.bind_some, Option.map_some, rb_cI, rb_cL, rb_cR, rb_cV, reduceIte, ite_true, ite_false, not_true_eq_false, not_false_eq_true, true_and, and_true, Nat.reduceEqDiff, Nat.reduceAdd, Nat.reduceMul, Nat.add_sub_cancel]
    · repeat' refine fx_lnI ?_
      exact hF
    · repeat' refine fr_I ?_ (by decide)
      exact fr_refl _ _ _ _
  | succ m ih =>
    intro k F hk hF h
    have h49 := hF.1 49
    have h50 := hF.1 50
    have h51 := hF.1 51
    have h52 := hF.1 52
    have h53 := hF.1 53
    simp only [fx_cI] at h49 h50 h51 h52 h53
    generalize hF1 : fx_A (fx_A (fx_A (fx_A (fx_A F 49 ((F.2.1 49).set k (nI 0))) 50 ((F.2.1 50).set k (nI 0))) 51 ((F.2.1 51).set k (nI 0))) 52 ((F.2.1 52).set k (nI 0))) 53 ((F.2.1 53).set k (-1)) = F1
    have hln1 : fx_ln F1 := by
      subst hF1
      repeat' refine fx_lnA ?_ (by rw [List.length_set]; exact hF.1 _)
      exact hF
    have hfr1 : fr [3418, 3422, 3423, 3426, 3429, 3433, 3437, 3438, 3439, 3440] [49, 50, 51, 52, 53] [] F F1 := by
      subst hF1
      repeat' refine fr_A ?_ (by decide)
      exact fr_refl _ _ _ _
    obtain ⟨F', e1, e2, e3, e4, e5⟩ := ih (k + 1) F1 (by omega) hln1 (fun j hj => by
      subst hF1
      simp only [fx_II, fx_AA, fx_LL, fx_I_1, fx_I_A, fx_I_L, fx_I_R, fx_I_Q, fx_A_1, fx_A_A, fx_A_L, fx_A_R, fx_A_Q, fx_L_1, fx_L_A, fx_L_L, fx_L_R, fx_L_Q, fx_R_1, fx_R_A, fx_R_L, fx_R_R, fx_R_Q, fx_Q_1, fx_Q_A, fx_Q_L, fx_Q_R, fx_Q_Q, Bool.false_eq_true, Option.bind_some, Option.map_some, rb_cI, rb_cL, rb_cR, rb_cV, reduceIte, ite_true, ite_false, not_true_eq_false, not_false_eq_true, true_and, and_true, Nat.reduceEqDiff, Nat.reduceAdd, Nat.reduceMul, Nat.add_sub_cancel]
      rw [set_get (by omega), set_get (by omega), set_get (by omega), set_get (by omega), set_get (by omega)]
      by_cases e : j = k
      · simp only [if_pos e, and_self]
      · simp only [if_neg e]
        exact h j (by omega))
    refine ⟨F', ?_, e2, e3, e4, fr_trans hfr1 e5⟩
    rw [← e1]
    refine rb_it_l ?_
    subst hF1
    unfold f_M_forget_b23
    simp (disch := omega) only [u_l32, ↓fx_bm, ↓fx_vm hb, ↓reduceIte, n_ltT, n_ltF, n_leT, n_leF, n_eqT, n_eqF, nI_1, u_lt, u_le, u_eq, u_add, u_ix, u_ixL, u_ixR, u_cl, u_nm1, u_nm1', u_m1l, u_m1n, u_l0, Option.bind_some, Option.map_some, not_true_eq_false, not_false_eq_true, true_and, and_true, Nat.add_sub_cancel, Bool.false_eq_true, u_nar2, fx_II, fx_AA, fx_LL, fx_I_1, fx_I_A, fx_I_L, fx_I_R, fx_I_Q, fx_A_1, fx_A_A, fx_A_L, fx_A_R, fx_A_Q, fx_L_1, fx_L_A, fx_L_L, fx_L_R, fx_L_Q, fx_R_1, fx_R_A, fx_R_L, fx_R_R, fx_R_Q, fx_Q_1, fx_Q_A, fx_Q_L, fx_Q_R, fx_Q_Q, u_nar4]
theorem m_forget (hb : rb_b σ ≤ b) (hF : fx_ln F) {N : List (List Nat)} (hN : m_names F N) : ∃ F', f_M_forget (some (fx_ad b 34)) (fx_mk σ b F) = some (none, fx_mk σ b F') ∧ m_rules F' T (r0 N) ∧ fx_ln F' ∧ fr [3418, 3422, 3423, 3426, 3429, 3433, 3437, 3438, 3439, 3440] [43, 49, 50, 51, 52, 53] [] F F' := by
  obtain ⟨F1, a1, a2, a3, a4⟩ := m_forget1 (σ := σ) (b := b) hb 26 0 F (by omega) hF (fun j hj => by omega)
  obtain ⟨F2, c1, c2, c3, c4, c5⟩ := m_forget2 (σ := σ) (b := b) hb 32 0 F1 (by omega) a3 (fun j hj => by omega)
  have hfr : fr [3418, 3422, 3423, 3426, 3429, 3433, 3437, 3438, 3439, 3440] [43, 49, 50, 51, 52, 53] [] F F2 := fr_trans (fr_mono a4 (by simp) (by simp) (by simp)) (fr_mono c5 (by simp) (by simp) (by simp))
  refine ⟨F2, ?_, ?_, c4, hfr⟩
  · unfold f_M_forget
    rw [← c1, ← a1]
    rfl
  · obtain ⟨d1, d2, d3, d4, d5, d6, d7, d8, d9, d10⟩ := c3
    refine ⟨m_names_fr hN hfr (by decide), ⟨d1, fun k hk => absurd hk (Nat.not_lt_zero _)⟩, ⟨d7, fun k hk => absurd hk (Nat.not_lt_zero _)⟩, ⟨d6, fun k hk => absurd hk (Nat.not_lt_zero _)⟩, ⟨d5, fun k hk => absurd hk (Nat.not_lt_zero _)⟩, fun m hm => ⟨?_, fun v hv => (by cases hv)⟩, fun k hk => (c2 k hk).2.2.2.2, fun k hk => ⟨(c2 k hk).2.2.2.1, (c2 k hk).1, (c2 k hk).2.1, (c2 k hk).2.2.1⟩, ⟨d8, d4⟩, ⟨d2, d3⟩, ⟨d9, d10⟩, ⟨fun h => (by cases h), fun h => (by cases h)⟩⟩
    rw [c5.2.1 43 (by decide)]
    exact a2 m hm
end
