/-! the reference: build -/
theorem i_nn {w : Int32} (h : ¬ w < 0) : w = nI w.toNatClampNeg ∧ w.toNatClampNeg < 2147483648 := by
  obtain ⟨n, hn, e⟩ := wb_of32 w
  have hlt : n < 2147483648 := by
    by_cases hc : n < 2147483648
    · exact hc
    · exfalso
      apply h
      subst e
      rw [Int32.lt_iff_toInt_lt]
      have h1 : (nI n).toInt = (n : Int) - 4294967296 := by
        show (BitVec.ofNat 32 n).toInt = _
        rw [BitVec.toInt_eq_toNat_cond, BitVec.toNat_ofNat, Nat.mod_eq_of_lt (by omega)]
        rw [if_neg (by omega)]
        rfl
      rw [h1]
      show (n : Int) - 4294967296 < 0
      omega
  subst e
  rw [u_cl hlt]
  exact ⟨rfl, hlt⟩
theorem muN_0 : ∀ n, muN (fun _ => 0) n = n
  | 0 => rfl
  | n + 1 => by
    unfold muN
    rw [muN_0 n, if_pos rfl]
section
variable {σ : rb_St} {b : Nat} {F : fx_F} {X : XS}
theorem m_bRows (hb : rb_b σ ≤ b) {x2 : Int32} : ∀ (m k : Nat) (F : fx_F), k + m = 32 → fx_ln F → (∀ j, j < k → (F.2.1 72)[j]? = some (nI 0) ∧ (F.2.1 73)[j]? = some (nI 0)) → ∃ F', rb_it (fun z : (Int32 × rb_St) => f_M_build_b53 (some (fx_ad b 34)) x2 (z.1) z.2) (nI k, fx_mk σ b F) = rb_it (fun z : (Int32 × rb_St) => f_M_build_b53 (some (fx_ad b 34)) x2 (z.1) z.2) (nI 32, fx_mk σ b F') ∧ (∀ j, j < 32 → (F'.2.1 72)[j]? = some (nI 0) ∧ (F'.2.1 73)[j]? = some (nI 0)) ∧ fx_ln F' ∧ fr [] [72, 73] [] F F' := by
  intro m
  induction m with
  | zero =>
    intro k F hk hF h
    rw [show k = 32 by omega] at h ⊢
    exact ⟨F, rfl, h, hF, fr_refl _ _ _ _⟩
  | succ m ih =>
    intro k F hk hF h
    have h72 := hF.1 72
    have h73 := hF.1 73
    simp only [fx_cI] at h72 h73
    generalize hF1 : fx_A (fx_A F 72 ((F.2.1 72).set k (nI 0))) 73 ((F.2.1 73).set k (nI 0)) = F1
    have hfr1 : fr [] [72, 73] [] F F1 := by
      subst hF1
      exact fr_A (fr_A (fr_refl _ _ _ _) (by decide)) (by decide)
    have hln1 : fx_ln F1 := by
      subst hF1
      exact fx_lnA (fx_lnA hF (by rw [List.length_set]; exact hF.1 _)) (by rw [List.length_set]; exact hF.1 _)
    obtain ⟨F', e1, e2, e3, e4⟩ := ih (k + 1) F1 (by omega) hln1 (fun j hj => by
      subst hF1
      simp only [fx_II, fx_AA, fx_LL, fx_I_1, fx_I_A, fx_I_L, fx_I_R, fx_I_Q, fx_A_1, fx_A_A, fx_A_L, fx_A_R, fx_A_Q, fx_L_1, fx_L_A, fx_L_L, fx_L_R, fx_L_Q, fx_R_1, fx_R_A, fx_R_L, fx_R_R, fx_R_Q, fx_Q_1, fx_Q_A, fx_Q_L, fx_Q_R, fx_Q_Q, Bool.false_eq_true, Option.bind_some, Option.map_some, rb_cI, rb_cL, rb_cR, rb_cV, reduceIte, ite_true, ite_false, not_true_eq_false, not_false_eq_true, true_and, and_true, Nat.reduceEqDiff, Nat.reduceAdd, Nat.reduceMul, Nat.add_sub_cancel]
      rw [set_get (by omega), set_get (by omega)]
      by_cases e : j = k
      · rw [if_pos e, if_pos e]
        exact ⟨rfl, rfl⟩
      · rw [if_neg e, if_neg e]
        exact h j (by omega))
    refine ⟨F', ?_, e2, e3, fr_trans hfr1 e4⟩
    rw [← e1]
    refine rb_it_l ?_
    subst hF1
    show f_M_build_b53 _ _ _ _ = _
    unfold f_M_build_b53
    rw [if_neg (show ¬ (32 : Int32) ≤ nI k by rw [u_l32, u_le (by omega) (by omega)]; omega)]
    simp (disch := omega) only [↓fx_bm, ↓fx_vm hb, ↓reduceIte, n_ltT, n_ltF, n_leT, n_leF, n_eqT, n_eqF, nI_1, u_lt, u_le, u_eq, u_add, u_ix, u_ixL, u_ixR, u_cl, u_nm1, u_nm1', u_m1l, u_m1n, u_l0, Option.bind_some, Option.map_some, not_true_eq_false, not_false_eq_true, true_and, and_true, Nat.add_sub_cancel, Bool.false_eq_true, u_nar2, fx_II, fx_AA, fx_LL, fx_I_1, fx_I_A, fx_I_L, fx_I_R, fx_I_Q, fx_A_1, fx_A_A, fx_A_L, fx_A_R, fx_A_Q, fx_L_1, fx_L_A, fx_L_L, fx_L_R, fx_L_Q, fx_R_1, fx_R_A, fx_R_L, fx_R_R, fx_R_Q, fx_Q_1, fx_Q_A, fx_Q_L, fx_Q_R, fx_Q_Q, u_nar4, Nat.reduceEqDiff]
theorem m_bGo (hb : rb_b σ ≤ b) (hx : xok X) (hck : xC X + 57632 ≤ 2000000000) {w : Nat} (hw : w < 64) {t : Nat} {N : List (List Nat)} (hN : nok N) (hNl : (rN (xR X)).length ≤ N.length) (ht : t < N.length) (h : m_all F (xD X, X.2.1, xV X, wN (xR X) N, X.2.2.2.2)) : ∃ F', f_M_build_j34 (some (fx_ad b 34)) (nI w) (nI t) (fx_mk σ b F) = some (some (.int (if bG (x_run w t N X) t = 3 then nI 2 else if op w 8 = true ∧ (x_run w t N X).2.2.1 = true then nI 1 else nI 0)), fx_mk σ b F') ∧ m_all F' ([], (pF (x_run w t N X).1, pC (x_run w t N X).1), xV X, wN (xR X) (pN (x_run w t N X).1), bG (x_run w t N X), pP (x_run w t N X).1, (x_run w t N X).2.1) ∧ mF F F' := by
  obtain ⟨h1, h2, h3, h4, ⟨T, t1, t2, t3, t4⟩, h6, h7, h8⟩ := h
  replace h3 : m_files F (xF X) (xC X) := h3
  replace h4 : m_given F (xV X) := h4
  replace t4 : m_rules F T (wN (xR X) N) := t4
  obtain ⟨x1, x2, x3, x4, x5, x6, x7⟩ := hx
  have ht32 : t < 32 := Nat.lt_of_lt_of_le ht hN.1
  generalize hF1 : fx_I (fx_I F 3401 (nI 0)) 3456 (nI w) = F1
  have hfr1 : fr [3401, 3456] [] [] F F1 := by
    subst hF1
    exact fr_I (fr_I (fr_refl _ _ _ _) (by decide)) (by decide)
  have hln1 : fx_ln F1 := by
    subst hF1
    exact fx_lnI (fx_lnI h1)
  obtain ⟨F2, a1, a2, a3, a4⟩ := m_bRows (σ := σ) (b := b) hb (x2 := nI t) 32 0 F1 (by omega) hln1 (fun j hj => by omega)
  generalize hF3 : fx_I (fx_I (fx_I F2 3469 (nI 0)) 3470 (nI 0)) 3472 (nI 0) = F3
  have hfr3 : fr [3469, 3470, 3472] [] [] F2 F3 := by
    subst hF3
    exact fr_I (fr_I (fr_I (fr_refl _ _ _ _) (by decide)) (by decide)) (by decide)
  have hln3 : fx_ln F3 := by
    subst hF3
    exact fx_lnI (fx_lnI (fx_lnI a3))
  have hfr : fr [3401, 3456, 3469, 3470, 3472] [72, 73] [] F F3 := fr_trans (fr_mono hfr1 (by decide) (by decide) (by decide)) (fr_trans (fr_mono a4 (by decide) (by decide) (by decide)) (fr_mono hfr3 (by decide) (by decide) (by decide)))
  have hB : m_bg T (xV X) (xR X) w F3 ((N, xF X, xC X, []), 0, false, fun _ => 0) := by
    refine ⟨⟨m_rules_fr t4 hfr (by decide) (by decide) (by decide), m_text_fr t3 hfr (by decide), m_given_fr h4 hfr (by decide), m_files_fr h3 hfr (by decide), ⟨?_, rk_nil _⟩, ?_, ?_⟩, ?_, fun j hj => ?_⟩
    · subst hF3
      rw [fx_I_1, if_pos rfl]
      rfl
    · rw [hfr3.1 3456 (by decide), a4.1 3456 (by decide)]
      subst hF1
      rw [fx_I_1, if_pos rfl]
    · subst hF3
      simp only [fx_II, fx_AA, fx_LL, fx_I_1, fx_I_A, fx_I_L, fx_I_R, fx_I_Q, fx_A_1, fx_A_A, fx_A_L, fx_A_R, fx_A_Q, fx_L_1, fx_L_A, fx_L_L, fx_L_R, fx_L_Q, fx_R_1, fx_R_A, fx_R_L, fx_R_R, fx_R_Q, fx_Q_1, fx_Q_A, fx_Q_L, fx_Q_R, fx_Q_Q, Bool.false_eq_true, Option.bind_some, Option.map_some, rb_cI, rb_cL, rb_cR, rb_cV, reduceIte, ite_true, ite_false, not_true_eq_false, not_false_eq_true, true_and, and_true, Nat.reduceEqDiff, Nat.reduceAdd, Nat.reduceMul, Nat.add_sub_cancel]
    · subst hF3
      simp only [fx_II, fx_AA, fx_LL, fx_I_1, fx_I_A, fx_I_L, fx_I_R, fx_I_Q, fx_A_1, fx_A_A, fx_A_L, fx_A_R, fx_A_Q, fx_L_1, fx_L_A, fx_L_L, fx_L_R, fx_L_Q, fx_R_1, fx_R_A, fx_R_L, fx_R_R, fx_R_Q, fx_Q_1, fx_Q_A, fx_Q_L, fx_Q_R, fx_Q_Q, Bool.false_eq_true, Option.bind_some, Option.map_some, rb_cI, rb_cL, rb_cR, rb_cV, reduceIte, ite_true, ite_false, not_true_eq_false, not_false_eq_true, true_and, and_true, Nat.reduceEqDiff, Nat.reduceAdd, Nat.reduceMul, Nat.add_sub_cancel]
      rfl
    · rw [hfr3.2.1 72 (by decide)]
      exact (a2 j hj).1
  have hS : bok (xR X) ((N, xF X, xC X, []), 0, false, fun _ => 0) := by
    refine ⟨⟨hN, Nat.zero_le _⟩, x3, ?_, fun j => Nat.zero_le _, hNl⟩
    show xC X + 1801 * muN (fun _ => 0) 32 ≤ _
    rw [muN_0]
    omega
  have h01 : F3.1 3401 = nI 0 := by
    rw [hfr3.1 3401 (by decide), a4.1 3401 (by decide)]
    subst hF1
    simp only [fx_II, fx_AA, fx_LL, fx_I_1, fx_I_A, fx_I_L, fx_I_R, fx_I_Q, fx_A_1, fx_A_A, fx_A_L, fx_A_R, fx_A_Q, fx_L_1, fx_L_A, fx_L_L, fx_L_R, fx_L_Q, fx_R_1, fx_R_A, fx_R_L, fx_R_R, fx_R_Q, fx_Q_1, fx_Q_A, fx_Q_L, fx_Q_R, fx_Q_Q, Bool.false_eq_true, Option.bind_some, Option.map_some, rb_cI, rb_cL, rb_cR, rb_cV, reduceIte, ite_true, ite_false, not_true_eq_false, not_false_eq_true, true_and, and_true, Nat.reduceEqDiff, Nat.reduceAdd, Nat.reduceMul, Nat.add_sub_cancel]
  obtain ⟨F', c1, c2, c3, c4, c5⟩ := m_update (σ := σ) (b := b) (F := F3) hb x5.1 x5.2.1 hw t1 t2 x4 (t := t) (S := ((N, xF X, xC X, []), 0, false, fun _ => 0)) ht rfl hS hln3 hB (fun j hj => by rw [hfr3.2.1 73 (by decide)]; exact (a2 j hj).2) h01
  have hok := upd_ok x5.1 (xV X) w 33 [] t ((N, xF X, xC X, []), 0, false, fun _ => 0) (by simp) ⟨List.nodup_nil, fun j hj => (by cases hj)⟩ ht (by simp) rfl hS
  replace c2 : m_bg T (xV X) (xR X) w F' (x_run w t N X) := c2
  replace hok : updS (xR X) [] t ((N, xF X, xC X, []), 0, false, fun _ => 0) (x_run w t N X) := hok
  generalize x_run w t N X = S' at c2 hok ⊢
  refine ⟨F', ?_, ⟨c3, ⟨c4, rk_nil _⟩, c2.1.2.2.2.1, c2.1.2.2.1, ⟨T, t1, t2, c2.1.2.1, c2.1.1⟩, c2.2.2, c2.1.2.2.2.2.1, c2.1.2.2.2.2.2.2⟩, mF_trans (mF_fr hfr (by decide) (by decide)) c5⟩
  have hft := c2.2.2 t ht32
  have hg3 := hok.1.2.2.2.1 t
  have ho8 : f_M_option (some (fx_ad b 34)) (8 : Int32) (fx_mk σ b F') = some (some (.int (nI (b2 (op w 8)))), fx_mk σ b F') := m_option hw c2.1.2.2.2.2.2.1 (op_a w hw).2.2.2.1
  have hso := c2.2.1
  have hst : f_M_build_j34 (some (fx_ad b 34)) (nI w) (nI t) (fx_mk σ b F) = rb_it (fun z : (Int32 × rb_St) => f_M_build_b53 (some (fx_ad b 34)) (nI t) (z.1) z.2) (nI 32, fx_mk σ b F2) := by
    rw [← a1]
    subst hF1
    unfold f_M_build_j34
    simp (disch := omega) only [↓fx_vm hb, ↓reduceIte, n_ltT, n_ltF, n_leT, n_leF, n_eqT, n_eqF, nI_1, u_lt, u_le, u_eq, u_add, u_ix, u_ixL, u_ixR, u_cl, u_nm1, u_nm1', u_m1l, u_m1n, u_l0, Option.bind_some, Option.map_some, not_true_eq_false, not_false_eq_true, true_and, and_true, Nat.add_sub_cancel, Bool.false_eq_true, u_nar2]
  rw [hst]
  refine rb_it_r ?_
  show f_M_build_b53 _ _ _ _ = _
  unfold f_M_build_b53
  rw [if_pos (show (32 : Int32) ≤ nI 32 by decide)]
  have c1' : f_M_update (some (fx_ad b 34)) (nI t) (fx_mk σ b (fx_I (fx_I (fx_I F2 3469 (0 : Int32)) 3470 (0 : Int32)) 3472 (0 : Int32))) = some (none, fx_mk σ b F') := by
    rw [show fx_I (fx_I (fx_I F2 3469 (0 : Int32)) 3470 (0 : Int32)) 3472 (0 : Int32) = F3 from hF3]
    exact c1
  have hz : ((0 : Int32) = 0 ∨ (0 : Int32) = 1) = True := eq_true (Or.inl rfl)
  by_cases e3 : bG S' t = 3
  · rw [if_pos e3]
    simp (disch := omega) only [↓fx_bm, ↓fx_vm hb, ↓hz, ↓reduceIte, ↓cV_of c1', ↓bx_of rfl (show t < 2147483648 by omega) hft, e3, u_l3, u_l2, ↓reduceIte, n_ltT, n_ltF, n_leT, n_leF, n_eqT, n_eqF, nI_1, u_lt, u_le, u_eq, u_add, u_ix, u_ixL, u_ixR, u_cl, u_nm1, u_nm1', u_m1l, u_m1n, u_l0, Option.bind_some, Option.map_some, not_true_eq_false, not_false_eq_true, true_and, and_true, Nat.add_sub_cancel, Bool.false_eq_true, u_nar2]
  · rw [if_neg e3]
    cases h8' : op w 8
    · rw [h8', b2_f] at ho8
      rw [if_neg (show ¬ (false = true ∧ S'.2.2.1 = true) from fun h => by cases h.1)]
      simp (disch := omega) only [↓fx_bm, ↓fx_vm hb, ↓hz, ↓reduceIte, ↓cV_of c1', ↓bx_of rfl (show t < 2147483648 by omega) hft, e3, u_l3, ↓cI_of ho8, ↓reduceIte, n_ltT, n_ltF, n_leT, n_leF, n_eqT, n_eqF, nI_1, u_lt, u_le, u_eq, u_add, u_ix, u_ixL, u_ixR, u_cl, u_nm1, u_nm1', u_m1l, u_m1n, u_l0, Option.bind_some, Option.map_some, not_true_eq_false, not_false_eq_true, true_and, and_true, Nat.add_sub_cancel, Bool.false_eq_true, u_nar2]
    · rw [h8', b2_t] at ho8
      cases hso' : S'.2.2.1
      · rw [hso', b2_f] at hso
        rw [if_neg (show ¬ (true = true ∧ false = true) from fun h => by cases h.2)]
        simp (disch := omega) only [↓fx_bm, ↓fx_vm hb, ↓hz, ↓reduceIte, ↓cV_of c1', ↓bx_of rfl (show t < 2147483648 by omega) hft, e3, u_l3, ↓cI_of ho8, hso, ↓reduceIte, n_ltT, n_ltF, n_leT, n_leF, n_eqT, n_eqF, nI_1, u_lt, u_le, u_eq, u_add, u_ix, u_ixL, u_ixR, u_cl, u_nm1, u_nm1', u_m1l, u_m1n, u_l0, Option.bind_some, Option.map_some, not_true_eq_false, not_false_eq_true, true_and, and_true, Nat.add_sub_cancel, Bool.false_eq_true, u_nar2]
      · rw [hso', b2_t] at hso
        rw [if_pos (show (true = true ∧ true = true) from ⟨rfl, rfl⟩)]
        simp (disch := omega) only [↓fx_bm, ↓fx_vm hb, ↓hz, ↓reduceIte, ↓cV_of c1', ↓bx_of rfl (show t < 2147483648 by omega) hft, e3, u_l3, ↓cI_of ho8, hso, ↓reduceIte, n_ltT, n_ltF, n_leT, n_leF, n_eqT, n_eqF, nI_1, u_lt, u_le, u_eq, u_add, u_ix, u_ixL, u_ixR, u_cl, u_nm1, u_nm1', u_m1l, u_m1n, u_l0, Option.bind_some, Option.map_some, not_true_eq_false, not_false_eq_true, true_and, and_true, Nat.add_sub_cancel, Bool.false_eq_true, u_nar2, u_l1]
theorem m_all_build (hb : rb_b σ ≤ b) (h : m_all F X) (hx : xok X) (hck : xC X + 57632 ≤ 2000000000) (w : Int32) : ∃ F', f_M_build (some (fx_ad b 34)) w (fx_mk σ b F) = some (some (.int (c_build w X).1), fx_mk σ b F') ∧ m_all F' (c_build w X).2 ∧ mF F F' := by
  unfold c_build f_M_build
  by_cases w0 : w < 0
  · rw [if_pos w0, if_pos w0]
    exact ⟨F, rfl, h, mF_refl _⟩
  · rw [if_neg w0, if_neg w0]
    by_cases w63 : w ≤ 63
    · rw [if_pos w63, if_neg (show ¬ ¬ w ≤ 63 from fun h => h w63)]
      obtain ⟨e, hlt⟩ := i_nn w0
      have hw : w.toNatClampNeg < 64 := by
        rw [e, show (63 : Int32) = nI 63 from rfl, u_le hlt (by omega)] at w63
        omega
      generalize w.toNatClampNeg = n at e hw ⊢
      subst e
      have h0 := h
      obtain ⟨h1, h2, h3, h4, ⟨T, t1, t2, t3, t4⟩, h6, h7, h8⟩ := h
      have hN := hx.2.2.2.2.1.1.1
      have h320 := hx.1
      unfold x_goal
      by_cases hd : xD X = []
      · rw [if_pos hd]
        have h2' := h2.1
        rw [hd] at h2'
        have hop : F.1 3426 = oi (rOp (xR X) 1) := t4.2.2.2.2.2.2.2.2.1.2
        cases ho : rOp (xR X) 1 with
        | none =>
          rw [ho, oi_none] at hop
          refine ⟨F, ?_, h0, mF_refl _⟩
          simp (disch := omega) only [↓fx_bm, h2', List.length_nil, hop, f_M_build_j34, u_0m1, ↓reduceIte, n_ltT, n_ltF, n_leT, n_leF, n_eqT, n_eqF, nI_1, u_lt, u_le, u_eq, u_add, u_ix, u_ixL, u_ixR, u_cl, u_nm1, u_nm1', u_m1l, u_m1n, u_l0, Option.bind_some, Option.map_some, not_true_eq_false, not_false_eq_true, true_and, and_true, Nat.add_sub_cancel, Bool.false_eq_true, u_nar2]
        | some t =>
          rw [ho, oi_some] at hop
          have htl := hx.2.2.2.2.1.1.2.2.2.2.2.2.1 t ho
          obtain ⟨F', a1, a2, a3⟩ := m_bGo (σ := σ) (b := b) hb hx hck hw hN (Nat.le_refl _) htl h0
          refine ⟨F', ?_, a2, a3⟩
          rw [← a1]
          simp (disch := omega) only [↓fx_bm, h2', List.length_nil, hop, ↓reduceIte, n_ltT, n_ltF, n_leT, n_leF, n_eqT, n_eqF, nI_1, u_lt, u_le, u_eq, u_add, u_ix, u_ixL, u_ixR, u_cl, u_nm1, u_nm1', u_m1l, u_m1n, u_l0, Option.bind_some, Option.map_some, not_true_eq_false, not_false_eq_true, true_and, and_true, Nat.add_sub_cancel, Bool.false_eq_true, u_nar2]
      · rw [if_neg hd]
        have hdl : ¬ (xD X).length = 0 := fun h => hd (List.eq_nil_of_length_eq_zero h)
        have hdr := m_drafts (σ := σ) (b := b) hx.1 (tk_ok hx.2.1) h2
        obtain ⟨F1, a1, a2, a3, a4⟩ := m_meet (σ := σ) (b := b) hb h1 hN t4.1 (tk_ok hx.2.1)
        have hN' := nmeet_ok hN (xD X)
        have hNl := nmeet_len (rN (xR X)) (xD X)
        have hltm := @nmeet_lt (rN (xR X)) (xD X)
        rcases hm : nmeet (rN (xR X)) (xD X) with ⟨r, N⟩
        rw [hm] at a1 a2 hN' hNl hltm
        have hr1 : m_rules F1 T (wN (xR X) N) := m_rules_nm t4 a2 a4 (by decide) (by decide) (by decide)
        have hall : m_all F1 (xD X, X.2.1, xV X, wN (xR X) N, X.2.2.2.2) := ⟨a3, m_draft_fr h2 a4 (by decide), m_files_fr h3 a4 (by decide), m_given_fr h4 a4 (by decide), ⟨T, t1, t2, m_text_fr t3 a4 (by decide), hr1⟩, m_fates_fr h6 a4 (by decide), m_print_fr h7 a4 (by decide), (a4.1 3470 (by decide)).trans h8⟩
        cases r with
        | none =>
          simp only [oi_none] at a1
          refine ⟨F1, ?_, hall, mF_fr a4 (by decide) (by decide)⟩
          simp (disch := omega) only [↓fx_bm, h2.1, ↓cL_of hdr, ↓cI_of a1, f_M_build_j34, u_0m1, ↓reduceIte, n_ltT, n_ltF, n_leT, n_leF, n_eqT, n_eqF, nI_1, u_lt, u_le, u_eq, u_add, u_ix, u_ixL, u_ixR, u_cl, u_nm1, u_nm1', u_m1l, u_m1n, u_l0, Option.bind_some, Option.map_some, not_true_eq_false, not_false_eq_true, true_and, and_true, Nat.add_sub_cancel, Bool.false_eq_true, u_nar2]
        | some t =>
          simp only [oi_some] at a1
          obtain ⟨F', c1, c2, c3⟩ := m_bGo (σ := σ) (b := b) hb hx hck hw hN' hNl (hltm rfl) hall
          refine ⟨F', ?_, c2, mF_trans (mF_fr a4 (by decide) (by decide)) c3⟩
          rw [← c1]
          simp (disch := omega) only [↓fx_bm, h2.1, ↓cL_of hdr, ↓cI_of a1, ↓reduceIte, n_ltT, n_ltF, n_leT, n_leF, n_eqT, n_eqF, nI_1, u_lt, u_le, u_eq, u_add, u_ix, u_ixL, u_ixR, u_cl, u_nm1, u_nm1', u_m1l, u_m1n, u_l0, Option.bind_some, Option.map_some, not_true_eq_false, not_false_eq_true, true_and, and_true, Nat.add_sub_cancel, Bool.false_eq_true, u_nar2]
    · rw [if_neg w63, if_pos w63]
      exact ⟨F, rfl, h, mF_refl _⟩
end
