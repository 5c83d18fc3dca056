/-! the reference: begin -/
theorem look_ok {R : RS} {N : List (List Nat)} {f : Nat → Nat × Int32} (hN : nok N) {w : List Nat} (hw : pq_ok w) (hw2 : tk w) (hw8 : w.length ≤ 8) {x : (Nat × Nat) × List Nat} (h : x_look R N f w = some x) : x.1.1 < N.length ∧ pq_ok x.2 ∧ tk x.2 ∧ x.2.length ≤ 8 := by
  rw [x_look_eq] at h
  cases hx : fs (lkG R N f w) (rSf R).length 0 with
  | some y =>
    rw [hx] at h
    injection h with h
    subst h
    obtain ⟨h1, n, h2⟩ := fs_src hN _ _ y hx
    rw [h2]
    refine ⟨h1, fun c hc => hw c (List.mem_of_mem_take hc), tk_take hw2 _, ?_⟩
    rw [List.length_take]
    omega
  | none =>
    rw [hx] at h
    simp only at h
    cases hl : x_look1 R N f w [] with
    | none =>
      rw [hl] at h
      cases h
    | some z =>
      rw [hl] at h
      injection h with h
      subst h
      exact ⟨look1_lt hN hl, hw, hw2, hw8⟩
theorem cand_g {R : RS} {N : List (List Nat)} {f : Nat → Nat × Int32} (hR : rok R) {w r s : List Nat} {x : Nat × Nat} (h : x_cand R N f w r s = some x) : 1 ≤ x.2 ∧ x.2 ≤ 1000 := by
  have r8 := hR.2.2.2.2.2.2.2.1
  have r13 := hR.2.2.2.2.2.2.2.2.2.2.2.2
  unfold x_cand at h
  split at h
  · cases h
  · split at h
    · cases h
    · rename_i g hg
      split at h
      · cases h
      · split at h
        · injection h with h
          subst h
          have := r13 _ g hg
          exact ⟨this.2, by show g ≤ 1000; omega⟩
        · cases h
theorem look1_g {R : RS} {N : List (List Nat)} {f : Nat → Nat × Int32} (hR : rok R) {w s : List Nat} {x : Nat × Nat} (h : x_look1 R N f w s = some x) : 1 ≤ x.2 ∧ x.2 ≤ 1000 := by
  unfold x_look1 at h
  obtain ⟨i, _, _, hi⟩ := fs_some _ _ h
  exact cand_g hR hi
theorem look_g {R : RS} {N : List (List Nat)} {f : Nat → Nat × Int32} (hR : rok R) {w : List Nat} {x : (Nat × Nat) × List Nat} (h : x_look R N f w = some x) : 1 ≤ x.1.2 ∧ x.1.2 ≤ 1000 := by
  rw [x_look_eq] at h
  cases hx : fs (lkG R N f w) (rSf R).length 0 with
  | some y =>
    rw [hx] at h
    injection h with h
    subst h
    obtain ⟨i, _, _, hi⟩ := fs_some _ _ hx
    unfold lkG at hi
    split at hi
    · cases hq : x_look1 R N f (w.take (w.length - ((rSf R).getD i []).length)) ((rSf R).getD i []) with
      | none =>
        rw [hq] at hi
        cases hi
      | some z =>
        rw [hq] at hi
        injection hi with hi
        subst hi
        exact look1_g hR hq
    · cases hi
  | none =>
    rw [hx] at h
    simp only at h
    cases hl : x_look1 R N f w [] with
    | none =>
      rw [hl] at h
      cases h
    | some z =>
      rw [hl] at h
      injection h with h
      subst h
      exact look1_g hR hl
theorem choose_ok {R : RS} {N : List (List Nat)} {f : Nat → Nat × Int32} (hR : rok R) (hN : nok N) {t : Nat} (ht : t < N.length) {ch : CH} (h : x_choose R N f t = some ch) : chok N ch := by
  have r8 := hR.2.2.2.2.2.2.2.1
  have r11 := hR.2.2.2.2.2.2.2.2.2.2.1
  have r12 := hR.2.2.2.2.2.2.2.2.2.2.2.1
  have hw := nok_pq hN ht
  unfold x_choose at h
  split at h
  · rename_i g hg
    injection h with h
    subst h
    refine ⟨fun x hx => (by cases hx), fun g' hg' => ?_⟩
    injection hg' with hg'
    subst hg'
    have := r11 t g hg
    exact ⟨this.2, by omega⟩
  · split at h
    · rename_i x hx
      injection h with h
      subst h
      have h1 := look_ok hN hw.2.2 (name_tk (hN.2 t ht)) hw.1 hx
      have h2 := look_g hR hx
      refine ⟨fun y hy => ?_, fun g' hg' => ?_⟩
      · injection hy with hy
        subst hy
        exact h1
      · injection hg' with hg'
        subst hg'
        exact h2
    · split at h
      · injection h with h
        subst h
        exact ⟨fun x hx => (by cases hx), fun g hg => (by cases hg)⟩
      · split at h
        · rename_i g hg
          injection h with h
          subst h
          refine ⟨fun x hx => (by cases hx), fun g' hg' => ?_⟩
          injection hg' with hg'
          subst hg'
          have := r12 g hg
          exact ⟨this.2, by omega⟩
        · cases h
abbrev zGi : List Nat := [3466]
abbrev zGa : List Nat := [72, 73, 74, 75, 76, 78, 79, 80]
section
variable {σ : rb_St} {b : Nat} {F : fx_F} {T : List Nat} {gv : Nat → Option (List Nat)} {R : RS}
theorem m_lk_bx {w : Nat} {S : PS} {n : Nat} (h : m_bx T gv R w F S n) : m_lk F R (pN S) (pF S) := ⟨h.1.1, h.1.2.1, h.1.2.2.1, fun k hk => ⟨(h.1.2.2.2.2.2.2.2.1 k hk).1, (h.2.2.2.1.2 k hk).1⟩⟩
/-- t is pushed -/
theorem m_push (hb : rb_b σ ≤ b) (hF : fx_ln F) {t dp : Nat} (ht : t < 32) (hdp : dp < 32) (h72 : (F.2.1 72)[t]? = some (nI 0)) (hd : F.1 3466 = nI dp) : ∃ F', f_M_begin_j136 (some (fx_ad b 34)) (nI t) (fx_mk σ b F) = some (none, fx_mk σ b F') ∧ F'.2.1 73 = (F.2.1 73).set t (nI 1) ∧ F'.2.1 80 = (F.2.1 80).set dp (nI t) ∧ F'.1 3466 = nI (dp + 1) ∧ fx_ln F' ∧ fr [3466] [73, 80] [] F F' ∧ pf t F F' := by
  have h73 := hF.1 73
  have h80 := hF.1 80
  simp only [fx_cI] at h73 h80
  refine ⟨fx_I (fx_A (fx_A F 73 ((F.2.1 73).set t (nI 1))) 80 ((F.2.1 80).set dp (nI t))) 3466 (nI (dp + 1)), ?_, ?_, ?_, ?_, ?_, ?_, ?_⟩
  · unfold f_M_begin_j136
    simp (disch := omega) only [↓fx_bm, ↓fx_vm hb, ↓bx_of rfl (show t < 2147483648 by omega) h72, hd, ↓reduceIte, n_ltT, n_ltF, n_leT, n_leF, n_eqT, n_eqF, nI_1, u_lt, u_le, u_eq, u_add, u_ix, u_ixL, u_ixR, u_cl, u_nm1, u_nm1', u_m1l, u_m1n, u_l0, Option.bind_some, Option.map_some, not_true_eq_false, not_false_eq_true, true_and, and_true, Nat.add_sub_cancel, Bool.false_eq_true, u_nar2, fx_II, fx_AA, fx_LL, fx_I_1, fx_I_A, fx_I_L, fx_I_R, fx_I_Q, fx_A_1, fx_A_A, fx_A_L, fx_A_R, fx_A_Q, fx_L_1, fx_L_A, fx_L_L, fx_L_R, fx_L_Q, fx_R_1, fx_R_A, fx_R_L, fx_R_R, fx_R_Q, fx_Q_1, fx_Q_A, fx_Q_L, fx_Q_R, fx_Q_Q, Nat.reduceEqDiff, u_nar4, u_l1]
  · simp only [fx_II, fx_AA, fx_LL, fx_I_1, fx_I_A, fx_I_L, fx_I_R, fx_I_Q, fx_A_1, fx_A_A, fx_A_L, fx_A_R, fx_A_Q, fx_L_1, fx_L_A, fx_L_L, fx_L_R, fx_L_Q, fx_R_1, fx_R_A, fx_R_L, fx_R_R, fx_R_Q, fx_Q_1, fx_Q_A, fx_Q_L, fx_Q_R, fx_Q_Q, Bool.false_eq_true, Option.bind_some, Option.map_some, rb_cI, rb_cL, rb_cR, rb_cV, reduceIte, ite_true, ite_false, not_true_eq_false, not_false_eq_true, true_and, and_true, Nat.reduceEqDiff, Nat.reduceAdd, Nat.reduceMul, Nat.add_sub_cancel]
  · simp only [fx_II, fx_AA, fx_LL, fx_I_1, fx_I_A, fx_I_L, fx_I_R, fx_I_Q, fx_A_1, fx_A_A, fx_A_L, fx_A_R, fx_A_Q, fx_L_1, fx_L_A, fx_L_L, fx_L_R, fx_L_Q, fx_R_1, fx_R_A, fx_R_L, fx_R_R, fx_R_Q, fx_Q_1, fx_Q_A, fx_Q_L, fx_Q_R, fx_Q_Q, Bool.false_eq_true, Option.bind_some, Option.map_some, rb_cI, rb_cL, rb_cR, rb_cV, reduceIte, ite_true, ite_false, not_true_eq_false, not_false_eq_true, true_and, and_true, Nat.reduceEqDiff, Nat.reduceAdd, Nat.reduceMul, Nat.add_sub_cancel]
  · rw [fx_I_1, if_pos rfl]
  · exact fx_lnI (fx_lnA (fx_lnA hF (by rw [List.length_set]; exact hF.1 _)) (by rw [List.length_set]; exact hF.1 _))
  · exact fr_I (fr_A (fr_A (fr_refl _ _ _ _) (by decide)) (by decide)) (by decide)
  · refine ⟨fun o j hj h1 h2 => ?_, fun j hj => rfl⟩
    simp only [fx_I_A, fx_A_A]
    rw [if_neg (by omega)]
    by_cases e : o = 73
    · rw [if_pos e, set_ne hj, e]
    · rw [if_neg e]
theorem m_begin (hb : rb_b σ ≤ b) (hF : fx_ln F) (hR : rok R) (hE : eok R) {w : Nat} {S : PS} {n : Nat} (hB : m_bx T gv R w F S n) (hN : nok (pN S)) {t dp : Nat} (ht : t < (pN S).length) (hdp : dp < 32) (h72 : (F.2.1 72)[t]? = some (nI 0)) (hd : F.1 3466 = nI dp) : ∃ F', f_M_begin (some (fx_ad b 34)) (nI t) (fx_mk σ b F) = some (none, fx_mk σ b F') ∧ fx_ln F' ∧ fr zGi zGa [77] F F' ∧ pf t F F' ∧ match x_choose R (pN S) (pF S) t with
    | none => (F'.2.1 72)[t]? = some (nI 3) ∧ F'.2.1 73 = F.2.1 73 ∧ F'.2.1 80 = F.2.1 80 ∧ F'.1 3466 = nI dp
    | some ch => (F'.2.1 72)[t]? = some (nI 0) ∧ F'.2.1 73 = (F.2.1 73).set t (nI 1) ∧ F'.2.1 80 = (F.2.1 80).set dp (nI t) ∧ F'.1 3466 = nI (dp + 1) ∧ m_ch F' t ch ∧ (F'.2.1 74)[t]? = some (nI 0) ∧ (F'.2.1 75)[t]? = some (nI 0) := by
  have ht32 : t < 32 := Nat.lt_of_lt_of_le ht hN.1
  have r8 := hR.2.2.2.2.2.2.2.1
  have r11 := hR.2.2.2.2.2.2.2.2.2.2.1
  have r12 := hR.2.2.2.2.2.2.2.2.2.2.2.1
  have h74 := hF.1 74
  have h75 := hF.1 75
  have h76 := hF.1 76
  have h78 := hF.1 78
  have h79 := hF.1 79
  have hl72 := hF.1 72
  simp only [fx_cI] at h74 h75 h76 h78 h79 hl72
  have how : (F.2.1 53)[t]? = some (oi (rOw R t)) := hB.1.2.2.2.2.2.2.1 t ht32
  have hfl : (F.2.1 52)[t]? = some (nI (b2 (rFl R 0 t))) := (hB.1.2.2.2.2.2.2.2.1 t ht32).1
  have hfi : (F.2.1 37)[t]? = some (nI (if (pF S t).1 = 0 then 0 else 1)) := (hB.2.2.2.1.2 t ht32).1
  have hdf : F.1 3438 = oi (rOp R 0) := hB.1.2.2.2.2.2.2.2.2.1.1
  generalize hF1 : fx_A (fx_A (fx_A (fx_A (fx_A F 76 ((F.2.1 76).set t (-1))) 78 ((F.2.1 78).set t (oi (rOw R t)))) 79 ((F.2.1 79).set t (nI 0))) 74 ((F.2.1 74).set t (nI 0))) 75 ((F.2.1 75).set t (nI 0)) = F1
  have hfr1 : fr zGi zGa [77] F F1 := by
    subst hF1
    exact fr_A (fr_A (fr_A (fr_A (fr_A (fr_refl _ _ _ _) (by decide)) (by decide)) (by decide)) (by decide)) (by decide)
  have hfr1' : fr [] [74, 75, 76, 78, 79] [] F F1 := by
    subst hF1
    exact fr_A (fr_A (fr_A (fr_A (fr_A (fr_refl _ _ _ _) (by decide)) (by decide)) (by decide)) (by decide)) (by decide)
  have hln1 : fx_ln F1 := by
    subst hF1
    exact fx_lnA (fx_lnA (fx_lnA (fx_lnA (fx_lnA hF (by rw [List.length_set]; exact hF.1 _)) (by rw [List.length_set]; exact hF.1 _)) (by rw [List.length_set]; exact hF.1 _)) (by rw [List.length_set]; exact hF.1 _)) (by rw [List.length_set]; exact hF.1 _)
  have hpf1 : pf t F F1 := by
    subst hF1
    exact pf_A (G := fx_A (fx_A (fx_A (fx_A F 76 ((F.2.1 76).set t (-1))) 78 ((F.2.1 78).set t (oi (rOw R t)))) 79 ((F.2.1 79).set t (nI 0))) 74 ((F.2.1 74).set t (nI 0))) (pf_A (G := fx_A (fx_A (fx_A F 76 ((F.2.1 76).set t (-1))) 78 ((F.2.1 78).set t (oi (rOw R t)))) 79 ((F.2.1 79).set t (nI 0))) (pf_A (G := fx_A (fx_A F 76 ((F.2.1 76).set t (-1))) 78 ((F.2.1 78).set t (oi (rOw R t)))) (pf_A (G := fx_A F 76 ((F.2.1 76).set t (-1))) (pf_A (pf_refl _ _) 76 _) 78 _) 79 _) 74 _) 75 _
  have c76 : (F1.2.1 76)[t]? = some (-1 : Int32) := by
    subst hF1
    simp only [fx_II, fx_AA, fx_LL, fx_I_1, fx_I_A, fx_I_L, fx_I_R, fx_I_Q, fx_A_1, fx_A_A, fx_A_L, fx_A_R, fx_A_Q, fx_L_1, fx_L_A, fx_L_L, fx_L_R, fx_L_Q, fx_R_1, fx_R_A, fx_R_L, fx_R_R, fx_R_Q, fx_Q_1, fx_Q_A, fx_Q_L, fx_Q_R, fx_Q_Q, Bool.false_eq_true, Option.bind_some, Option.map_some, rb_cI, rb_cL, rb_cR, rb_cV, reduceIte, ite_true, ite_false, not_true_eq_false, not_false_eq_true, true_and, and_true, Nat.reduceEqDiff, Nat.reduceAdd, Nat.reduceMul, Nat.add_sub_cancel]
    rw [set_get (by omega), if_pos rfl]
  have c78 : (F1.2.1 78)[t]? = some (oi (rOw R t)) := by
    subst hF1
    simp only [fx_II, fx_AA, fx_LL, fx_I_1, fx_I_A, fx_I_L, fx_I_R, fx_I_Q, fx_A_1, fx_A_A, fx_A_L, fx_A_R, fx_A_Q, fx_L_1, fx_L_A, fx_L_L, fx_L_R, fx_L_Q, fx_R_1, fx_R_A, fx_R_L, fx_R_R, fx_R_Q, fx_Q_1, fx_Q_A, fx_Q_L, fx_Q_R, fx_Q_Q, Bool.false_eq_true, Option.bind_some, Option.map_some, rb_cI, rb_cL, rb_cR, rb_cV, reduceIte, ite_true, ite_false, not_true_eq_false, not_false_eq_true, true_and, and_true, Nat.reduceEqDiff, Nat.reduceAdd, Nat.reduceMul, Nat.add_sub_cancel]
    rw [set_get (by omega), if_pos rfl]
  have c79 : (F1.2.1 79)[t]? = some (nI 0) := by
    subst hF1
    simp only [fx_II, fx_AA, fx_LL, fx_I_1, fx_I_A, fx_I_L, fx_I_R, fx_I_Q, fx_A_1, fx_A_A, fx_A_L, fx_A_R, fx_A_Q, fx_L_1, fx_L_A, fx_L_L, fx_L_R, fx_L_Q, fx_R_1, fx_R_A, fx_R_L, fx_R_R, fx_R_Q, fx_Q_1, fx_Q_A, fx_Q_L, fx_Q_R, fx_Q_Q, Bool.false_eq_true, Option.bind_some, Option.map_some, rb_cI, rb_cL, rb_cR, rb_cV, reduceIte, ite_true, ite_false, not_true_eq_false, not_false_eq_true, true_and, and_true, Nat.reduceEqDiff, Nat.reduceAdd, Nat.reduceMul, Nat.add_sub_cancel]
    rw [set_get (by omega), if_pos rfl]
  have c74 : (F1.2.1 74)[t]? = some (nI 0) := by
    subst hF1
    simp only [fx_II, fx_AA, fx_LL, fx_I_1, fx_I_A, fx_I_L, fx_I_R, fx_I_Q, fx_A_1, fx_A_A, fx_A_L, fx_A_R, fx_A_Q, fx_L_1, fx_L_A, fx_L_L, fx_L_R, fx_L_Q, fx_R_1, fx_R_A, fx_R_L, fx_R_R, fx_R_Q, fx_Q_1, fx_Q_A, fx_Q_L, fx_Q_R, fx_Q_Q, Bool.false_eq_true, Option.bind_some, Option.map_some, rb_cI, rb_cL, rb_cR, rb_cV, reduceIte, ite_true, ite_false, not_true_eq_false, not_false_eq_true, true_and, and_true, Nat.reduceEqDiff, Nat.reduceAdd, Nat.reduceMul, Nat.add_sub_cancel]
    rw [set_get (by omega), if_pos rfl]
  have c75 : (F1.2.1 75)[t]? = some (nI 0) := by
    subst hF1
    simp only [fx_II, fx_AA, fx_LL, fx_I_1, fx_I_A, fx_I_L, fx_I_R, fx_I_Q, fx_A_1, fx_A_A, fx_A_L, fx_A_R, fx_A_Q, fx_L_1, fx_L_A, fx_L_L, fx_L_R, fx_L_Q, fx_R_1, fx_R_A, fx_R_L, fx_R_R, fx_R_Q, fx_Q_1, fx_Q_A, fx_Q_L, fx_Q_R, fx_Q_Q, Bool.false_eq_true, Option.bind_some, Option.map_some, rb_cI, rb_cL, rb_cR, rb_cV, reduceIte, ite_true, ite_false, not_true_eq_false, not_false_eq_true, true_and, and_true, Nat.reduceEqDiff, Nat.reduceAdd, Nat.reduceMul, Nat.add_sub_cancel]
    rw [set_get (by omega), if_pos rfl]
  have hst : f_M_begin (some (fx_ad b 34)) (nI t) (fx_mk σ b F) = if 0 ≤ oi (rOw R t) then f_M_begin_j54 (some (fx_ad b 34)) (nI t) (fx_mk σ b F1) else ((rb_fc (fx_mk σ b F1) (some (fx_ad b 34)) 13).bind fun _ => rb_cV (f_M_lookForEnding (some (fx_ad b 34)) (nI t) (fx_mk σ b F1)) fun σ_41 => f_M_begin_j54 (some (fx_ad b 34)) (nI t) σ_41) := by
    subst hF1
    unfold f_M_begin
    simp (disch := omega) only [↓fx_bm, ↓fx_vm hb, ↓reduceIte, n_ltT, n_ltF, n_leT, n_leF, n_eqT, n_eqF, nI_1, u_lt, u_le, u_eq, u_add, u_ix, u_ixL, u_ixR, u_cl, u_nm1, u_nm1', u_m1l, u_m1n, u_l0, Option.bind_some, Option.map_some, not_true_eq_false, not_false_eq_true, true_and, and_true, Nat.add_sub_cancel, Bool.false_eq_true, u_nar2, fx_II, fx_AA, fx_LL, fx_I_1, fx_I_A, fx_I_L, fx_I_R, fx_I_Q, fx_A_1, fx_A_A, fx_A_L, fx_A_R, fx_A_Q, fx_L_1, fx_L_A, fx_L_L, fx_L_R, fx_L_Q, fx_R_1, fx_R_A, fx_R_L, fx_R_R, fx_R_Q, fx_Q_1, fx_Q_A, fx_Q_L, fx_Q_R, fx_Q_Q, Nat.reduceEqDiff, u_nar4, how]
  -- what goes on behind the search, with F2
  have hbeh : ∀ (F2 : fx_F), fx_ln F2 → fr zGi zGa [77] F F2 → fr [] [74, 75, 76, 78, 79] [77] F F2 → pf t F F2 → (F2.2.1 74)[t]? = some (nI 0) → (F2.2.1 75)[t]? = some (nI 0) → ∀ ch : CH, m_ch F2 t ch → ∃ F', f_M_begin_j136 (some (fx_ad b 34)) (nI t) (fx_mk σ b F2) = some (none, fx_mk σ b F') ∧ fx_ln F' ∧ fr zGi zGa [77] F F' ∧ pf t F F' ∧ (F'.2.1 72)[t]? = some (nI 0) ∧ F'.2.1 73 = (F.2.1 73).set t (nI 1) ∧ F'.2.1 80 = (F.2.1 80).set dp (nI t) ∧ F'.1 3466 = nI (dp + 1) ∧ m_ch F' t ch ∧ (F'.2.1 74)[t]? = some (nI 0) ∧ (F'.2.1 75)[t]? = some (nI 0) := by
    intro F2 hln2 hfr2 hfr2' hpf2 d74 d75 ch hch
    have d72 : (F2.2.1 72)[t]? = some (nI 0) := by
      rw [hfr2'.2.1 72 (by decide)]
      exact h72
    obtain ⟨F', a1, a2, a3, a4, a5, a6, a7⟩ := m_push (σ := σ) (b := b) hb hln2 ht32 hdp d72 ((hfr2'.1 3466 (by decide)).trans hd)
    refine ⟨F', a1, a5, fr_trans hfr2 (fr_mono a6 (by decide) (by decide) (by decide)), pf_trans hpf2 a7, ?_, ?_, ?_, a4, m_ch_fr hch a6 (by decide), ?_, ?_⟩
    · rw [a6.2.1 72 (by decide)]
      exact d72
    · rw [a2, hfr2'.2.1 73 (by decide)]
    · rw [a3, hfr2'.2.1 80 (by decide)]
    · rw [a6.2.1 74 (by decide)]
      exact d74
    · rw [a6.2.1 75 (by decide)]
      exact d75
  rw [hst]
  unfold x_choose
  cases ho : rOw R t with
  | some g =>
    have hg := (r11 t g ho).1
    rw [ho, oi_some] at c78
    rw [oi_some]
    obtain ⟨F', e1, e2, e3, e4, e5⟩ := hbeh F1 hln1 hfr1 (fr_mono hfr1' (by decide) (by decide) (by decide)) hpf1 c74 c75 (some g, none, false) ⟨c76, fun x hx => (by cases hx), c78, c79⟩
    refine ⟨F', ?_, e2, e3, e4, e5⟩
    rw [← e1]
    have how1 : (F1.2.1 53)[t]? = some (nI g) := by
      rw [hfr1.2.1 53 (by decide), how, ho]
      rfl
    unfold f_M_begin_j54
    simp (disch := omega) only [↓fx_bm, ↓bx_of rfl (show t < 2147483648 by omega) how1, ↓reduceIte, n_ltT, n_ltF, n_leT, n_leF, n_eqT, n_eqF, nI_1, u_lt, u_le, u_eq, u_add, u_ix, u_ixL, u_ixR, u_cl, u_nm1, u_nm1', u_m1l, u_m1n, u_l0, Option.bind_some, Option.map_some, not_true_eq_false, not_false_eq_true, true_and, and_true, Nat.add_sub_cancel, Bool.false_eq_true, u_nar2]
  | none =>
    rw [ho, oi_none] at c78
    rw [oi_none, u_l0, if_neg (show ¬ nI 0 ≤ (-1 : Int32) by decide)]
    have hlk1 : m_lk F1 R (pN S) (pF S) := m_lk_fr (m_lk_bx hB) hfr1 (by decide)
    obtain ⟨F2, a1, a2, a3, a4, a5⟩ := m_lookForEnding (σ := σ) (b := b) hb hln1 hR hE hN ht hlk1 c76 c78
    have hfr2 : fr zGi zGa [77] F F2 := fr_trans hfr1 (fr_mono a4 (by decide) (by decide) (by decide))
    have hfr2' : fr [] [74, 75, 76, 78, 79] [77] F F2 := fr_trans (fr_mono hfr1' (by decide) (by decide) (by decide)) (fr_mono a4 (by decide) (by decide) (by decide))
    have hpf2 := pf_trans hpf1 a5
    have d74 : (F2.2.1 74)[t]? = some (nI 0) := by rw [a4.2.1 74 (by decide)]; exact c74
    have d75 : (F2.2.1 75)[t]? = some (nI 0) := by rw [a4.2.1 75 (by decide)]; exact c75
    have d79 : (F2.2.1 79)[t]? = some (nI 0) := by rw [a4.2.1 79 (by decide)]; exact c79
    have how2 : (F2.2.1 53)[t]? = some (-1 : Int32) := by
      rw [hfr2.2.1 53 (by decide), how, ho]
      rfl
    have hgo : ((rb_fc (fx_mk σ b F1) (some (fx_ad b 34)) 13).bind fun _ => rb_cV (f_M_lookForEnding (some (fx_ad b 34)) (nI t) (fx_mk σ b F1)) fun σ_41 => f_M_begin_j54 (some (fx_ad b 34)) (nI t) σ_41) = f_M_begin_j54 (some (fx_ad b 34)) (nI t) (fx_mk σ b F2) := by
      simp only [↓fx_bm, ↓cV_of a1]
    rw [hgo]
    have hw := nok_pq hN ht
    cases hx : x_look R (pN S) (pF S) ((pN S).getD t []) with
    | some x =>
      rw [hx] at a2
      have hxo := look_ok hN hw.2.2 (name_tk (hN.2 t ht)) hw.1 hx
      have hx32 : x.1.1 < 32 := Nat.lt_of_lt_of_le hxo.1 hN.1
      obtain ⟨s1, s2, -⟩ := a2
      have s3 := s2 x rfl
      obtain ⟨F', e1, e2, e3, e4, e5⟩ := hbeh F2 a3 hfr2 hfr2' hpf2 d74 d75 (some x.1.2, some (x.1.1, x.2), false) ⟨s1, fun y hy => by injection hy with hy; subst hy; exact s3.1, s3.2, d79⟩
      refine ⟨F', ?_, e2, e3, e4, e5⟩
      rw [← e1]
      simp only [Option.map_some, oi_some] at s1
      unfold f_M_begin_j54
      simp (disch := omega) only [↓fx_bm, ↓bx_of rfl (show t < 2147483648 by omega) how2, ↓bx_of rfl (show t < 2147483648 by omega) s1, u_0m1, ↓reduceIte, n_ltT, n_ltF, n_leT, n_leF, n_eqT, n_eqF, nI_1, u_lt, u_le, u_eq, u_add, u_ix, u_ixL, u_ixR, u_cl, u_nm1, u_nm1', u_m1l, u_m1n, u_l0, Option.bind_some, Option.map_some, not_true_eq_false, not_false_eq_true, true_and, and_true, Nat.add_sub_cancel, Bool.false_eq_true, u_nar2]
    | none =>
      rw [hx] at a2
      have s1 := a2.1
      simp only [Option.map_none, oi_none] at s1
      have d78 : (F2.2.1 78)[t]? = some (-1 : Int32) := a2.2.2 rfl
      simp only
      have hfl2 : (F2.2.1 52)[t]? = some (nI (b2 (rFl R 0 t))) := by rw [hfr2.2.1 52 (by decide)]; exact hfl
      have hfi2 : (F2.2.1 37)[t]? = some (nI (if (pF S t).1 = 0 then 0 else 1)) := by rw [hfr2.2.1 37 (by decide)]; exact hfi
      have hdf2 : F2.1 3438 = oi (rOp R 0) := (hfr2.1 3438 (by decide)).trans hdf
      by_cases hrf : rFl R 0 t = true ∨ ¬ (pF S t).1 = 0
      · rw [if_pos hrf]
        obtain ⟨F', e1, e2, e3, e4, e5⟩ := hbeh F2 a3 hfr2 hfr2' hpf2 d74 d75 (none, none, false) ⟨s1, fun y hy => (by cases hy), d78, d79⟩
        refine ⟨F', ?_, e2, e3, e4, e5⟩
        rw [← e1]
        unfold f_M_begin_j54
        cases hr0 : rFl R 0 t
        · rw [hr0, b2_f] at hfl2
          have hf0 : ¬ (pF S t).1 = 0 := hrf.elim (fun h => by rw [hr0] at h; cases h) id
          rw [if_neg hf0] at hfi2
          simp (disch := omega) only [↓fx_bm, ↓bx_of rfl (show t < 2147483648 by omega) how2, ↓bx_of rfl (show t < 2147483648 by omega) s1, ↓bx_of rfl (show t < 2147483648 by omega) hfl2, ↓bx_of rfl (show t < 2147483648 by omega) hfi2, u_0m1, ↓reduceIte, n_ltT, n_ltF, n_leT, n_leF, n_eqT, n_eqF, nI_1, u_lt, u_le, u_eq, u_add, u_ix, u_ixL, u_ixR, u_cl, u_nm1, u_nm1', u_m1l, u_m1n, u_l0, Option.bind_some, Option.map_some, not_true_eq_false, not_false_eq_true, true_and, and_true, Nat.add_sub_cancel, Bool.false_eq_true, u_nar2]
        · rw [hr0, b2_t] at hfl2
          simp (disch := omega) only [↓fx_bm, ↓bx_of rfl (show t < 2147483648 by omega) how2, ↓bx_of rfl (show t < 2147483648 by omega) s1, ↓bx_of rfl (show t < 2147483648 by omega) hfl2, u_0m1, ↓reduceIte, n_ltT, n_ltF, n_leT, n_leF, n_eqT, n_eqF, nI_1, u_lt, u_le, u_eq, u_add, u_ix, u_ixL, u_ixR, u_cl, u_nm1, u_nm1', u_m1l, u_m1n, u_l0, Option.bind_some, Option.map_some, not_true_eq_false, not_false_eq_true, true_and, and_true, Nat.add_sub_cancel, Bool.false_eq_true, u_nar2]
      · rw [if_neg hrf]
        rw [not_or] at hrf
        have hr0 : rFl R 0 t = false := Bool.eq_false_iff.mpr hrf.1
        have hf0 : (pF S t).1 = 0 := Decidable.not_not.mp hrf.2
        rw [hr0, b2_f] at hfl2
        rw [if_pos hf0] at hfi2
        have hl78 := a3.1 78
        have hl79 := a3.1 79
        have hl72' := a3.1 72
        simp only [fx_cI] at hl78 hl79 hl72'
        cases hop : rOp R 0 with
        | some g =>
          have hg := (r12 g hop).1
          rw [hop, oi_some] at hdf2
          simp only
          generalize hF3 : fx_A (fx_A (fx_A F2 78 ((F2.2.1 78).set t (nI g))) 79 ((F2.2.1 79).set t (nI 1))) 72 ((F2.2.1 72).set t (nI 0)) = F3
          have hln3 : fx_ln F3 := by
            subst hF3
            exact fx_lnA (fx_lnA (fx_lnA a3 (by rw [List.length_set]; exact a3.1 _)) (by rw [List.length_set]; exact a3.1 _)) (by rw [List.length_set]; exact a3.1 _)
          have hfr23 : fr [] [72, 78, 79] [] F2 F3 := by
            subst hF3
            exact fr_A (fr_A (fr_A (fr_refl _ _ _ _) (by decide)) (by decide)) (by decide)
          have hpf3 : pf t F2 F3 := by
            subst hF3
            exact pf_A (G := fx_A (fx_A F2 78 ((F2.2.1 78).set t (nI g))) 79 ((F2.2.1 79).set t (nI 1))) (pf_A (G := fx_A F2 78 ((F2.2.1 78).set t (nI g))) (pf_A (pf_refl _ _) 78 _) 79 _) 72 _
          have g72 : (F3.2.1 72)[t]? = some (nI 0) := by
            subst hF3
            simp only [fx_II, fx_AA, fx_LL, fx_I_1, fx_I_A, fx_I_L, fx_I_R, fx_I_Q, fx_A_1, fx_A_A, fx_A_L, fx_A_R, fx_A_Q, fx_L_1, fx_L_A, fx_L_L, fx_L_R, fx_L_Q, fx_R_1, fx_R_A, fx_R_L, fx_R_R, fx_R_Q, fx_Q_1, fx_Q_A, fx_Q_L, fx_Q_R, fx_Q_Q, Bool.false_eq_true, Option.bind_some, Option.map_some, rb_cI, rb_cL, rb_cR, rb_cV, reduceIte, ite_true, ite_false, not_true_eq_false, not_false_eq_true, true_and, and_true, Nat.reduceEqDiff, Nat.reduceAdd, Nat.reduceMul, Nat.add_sub_cancel]
            rw [set_get (by omega), if_pos rfl]
          have g78 : (F3.2.1 78)[t]? = some (nI g) := by
            subst hF3
            simp only [fx_II, fx_AA, fx_LL, fx_I_1, fx_I_A, fx_I_L, fx_I_R, fx_I_Q, fx_A_1, fx_A_A, fx_A_L, fx_A_R, fx_A_Q, fx_L_1, fx_L_A, fx_L_L, fx_L_R, fx_L_Q, fx_R_1, fx_R_A, fx_R_L, fx_R_R, fx_R_Q, fx_Q_1, fx_Q_A, fx_Q_L, fx_Q_R, fx_Q_Q, Bool.false_eq_true, Option.bind_some, Option.map_some, rb_cI, rb_cL, rb_cR, rb_cV, reduceIte, ite_true, ite_false, not_true_eq_false, not_false_eq_true, true_and, and_true, Nat.reduceEqDiff, Nat.reduceAdd, Nat.reduceMul, Nat.add_sub_cancel]
            rw [set_get (by omega), if_pos rfl]
          have g79 : (F3.2.1 79)[t]? = some (nI 1) := by
            subst hF3
            simp only [fx_II, fx_AA, fx_LL, fx_I_1, fx_I_A, fx_I_L, fx_I_R, fx_I_Q, fx_A_1, fx_A_A, fx_A_L, fx_A_R, fx_A_Q, fx_L_1, fx_L_A, fx_L_L, fx_L_R, fx_L_Q, fx_R_1, fx_R_A, fx_R_L, fx_R_R, fx_R_Q, fx_Q_1, fx_Q_A, fx_Q_L, fx_Q_R, fx_Q_Q, Bool.false_eq_true, Option.bind_some, Option.map_some, rb_cI, rb_cL, rb_cR, rb_cV, reduceIte, ite_true, ite_false, not_true_eq_false, not_false_eq_true, true_and, and_true, Nat.reduceEqDiff, Nat.reduceAdd, Nat.reduceMul, Nat.add_sub_cancel]
            rw [set_get (by omega), if_pos rfl]
          have g76 : (F3.2.1 76)[t]? = some (-1 : Int32) := by rw [hfr23.2.1 76 (by decide)]; exact s1
          have hd3 : F3.1 3466 = nI dp := (hfr23.1 3466 (by decide)).trans ((hfr2'.1 3466 (by decide)).trans hd)
          obtain ⟨F', k1, k2, k3, k4, k5, k6, k7⟩ := m_push (σ := σ) (b := b) hb hln3 ht32 hdp g72 hd3
          refine ⟨F', ?_, k5, fr_trans hfr2 (fr_trans (fr_mono hfr23 (by decide) (by decide) (by decide)) (fr_mono k6 (by decide) (by decide) (by decide))), pf_trans hpf2 (pf_trans hpf3 k7), ?_, ?_, ?_, k4, m_ch_fr (ch := (some g, none, true)) ⟨g76, fun y hy => (by cases hy), g78, g79⟩ k6 (by decide), ?_, ?_⟩
          · rw [← k1]
            subst hF3
            unfold f_M_begin_j54 f_M_begin_j117 f_M_begin_j135
            simp (disch := omega) only [↓fx_bm, ↓fx_vm hb, ↓bx_of rfl (show t < 2147483648 by omega) how2, ↓bx_of rfl (show t < 2147483648 by omega) s1, ↓bx_of rfl (show t < 2147483648 by omega) hfl2, ↓bx_of rfl (show t < 2147483648 by omega) hfi2, hdf2, u_0m1, show (nI 0 ≤ -nI 1) = False from eq_false (by decide), ↓reduceIte, n_ltT, n_ltF, n_leT, n_leF, n_eqT, n_eqF, nI_1, u_lt, u_le, u_eq, u_add, u_ix, u_ixL, u_ixR, u_cl, u_nm1, u_nm1', u_m1l, u_m1n, u_l0, Option.bind_some, Option.map_some, not_true_eq_false, not_false_eq_true, true_and, and_true, Nat.add_sub_cancel, Bool.false_eq_true, u_nar2, fx_II, fx_AA, fx_LL, fx_I_1, fx_I_A, fx_I_L, fx_I_R, fx_I_Q, fx_A_1, fx_A_A, fx_A_L, fx_A_R, fx_A_Q, fx_L_1, fx_L_A, fx_L_L, fx_L_R, fx_L_Q, fx_R_1, fx_R_A, fx_R_L, fx_R_R, fx_R_Q, fx_Q_1, fx_Q_A, fx_Q_L, fx_Q_R, fx_Q_Q, Nat.reduceEqDiff, u_nar4, u_l1]
          · rw [k6.2.1 72 (by decide)]
            exact g72
          · rw [k2, hfr23.2.1 73 (by decide), hfr2'.2.1 73 (by decide)]
          · rw [k3, hfr23.2.1 80 (by decide), hfr2'.2.1 80 (by decide)]
          · rw [k6.2.1 74 (by decide), hfr23.2.1 74 (by decide)]
            exact d74
          · rw [k6.2.1 75 (by decide), hfr23.2.1 75 (by decide)]
            exact d75
        | none =>
          rw [hop, oi_none] at hdf2
          simp only
          generalize hF3 : fx_A (fx_A (fx_A F2 78 ((F2.2.1 78).set t (-1))) 79 ((F2.2.1 79).set t (nI 0))) 72 ((F2.2.1 72).set t (nI 3)) = F3
          have hln3 : fx_ln F3 := by
            subst hF3
            exact fx_lnA (fx_lnA (fx_lnA a3 (by rw [List.length_set]; exact a3.1 _)) (by rw [List.length_set]; exact a3.1 _)) (by rw [List.length_set]; exact a3.1 _)
          have hfr23 : fr [] [72, 78, 79] [] F2 F3 := by
            subst hF3
            exact fr_A (fr_A (fr_A (fr_refl _ _ _ _) (by decide)) (by decide)) (by decide)
          have hpf3 : pf t F2 F3 := by
            subst hF3
            exact pf_A (G := fx_A (fx_A F2 78 ((F2.2.1 78).set t (-1))) 79 ((F2.2.1 79).set t (nI 0))) (pf_A (G := fx_A F2 78 ((F2.2.1 78).set t (-1))) (pf_A (pf_refl _ _) 78 _) 79 _) 72 _
          have g72 : (F3.2.1 72)[t]? = some (nI 3) := by
            subst hF3
            simp only [fx_II, fx_AA, fx_LL, fx_I_1, fx_I_A, fx_I_L, fx_I_R, fx_I_Q, fx_A_1, fx_A_A, fx_A_L, fx_A_R, fx_A_Q, fx_L_1, fx_L_A, fx_L_L, fx_L_R, fx_L_Q, fx_R_1, fx_R_A, fx_R_L, fx_R_R, fx_R_Q, fx_Q_1, fx_Q_A, fx_Q_L, fx_Q_R, fx_Q_Q, Bool.false_eq_true, Option.bind_some, Option.map_some, rb_cI, rb_cL, rb_cR, rb_cV, reduceIte, ite_true, ite_false, not_true_eq_false, not_false_eq_true, true_and, and_true, Nat.reduceEqDiff, Nat.reduceAdd, Nat.reduceMul, Nat.add_sub_cancel]
            rw [set_get (by omega), if_pos rfl]
          refine ⟨F3, ?_, hln3, fr_trans hfr2 (fr_mono hfr23 (by decide) (by decide) (by decide)), pf_trans hpf2 hpf3, g72, ?_, ?_, ?_⟩
          · have hstop : f_M_begin_j136 (some (fx_ad b 34)) (nI t) (fx_mk σ b F3) = some (none, fx_mk σ b F3) := by
              unfold f_M_begin_j136
              simp (disch := omega) only [↓fx_bm, ↓bx_of rfl (show t < 2147483648 by omega) g72, ↓reduceIte, n_ltT, n_ltF, n_leT, n_leF, n_eqT, n_eqF, nI_1, u_lt, u_le, u_eq, u_add, u_ix, u_ixL, u_ixR, u_cl, u_nm1, u_nm1', u_m1l, u_m1n, u_l0, Option.bind_some, Option.map_some, not_true_eq_false, not_false_eq_true, true_and, and_true, Nat.add_sub_cancel, Bool.false_eq_true, u_nar2]
            rw [← hstop]
            subst hF3
            unfold f_M_begin_j54 f_M_begin_j117 f_M_begin_j135
            simp (disch := omega) only [↓fx_bm, ↓fx_vm hb, ↓bx_of rfl (show t < 2147483648 by omega) how2, ↓bx_of rfl (show t < 2147483648 by omega) s1, ↓bx_of rfl (show t < 2147483648 by omega) hfl2, ↓bx_of rfl (show t < 2147483648 by omega) hfi2, hdf2, u_0m1, u_m10, ↓reduceIte, n_ltT, n_ltF, n_leT, n_leF, n_eqT, n_eqF, nI_1, u_lt, u_le, u_eq, u_add, u_ix, u_ixL, u_ixR, u_cl, u_nm1, u_nm1', u_m1l, u_m1n, u_l0, Option.bind_some, Option.map_some, not_true_eq_false, not_false_eq_true, true_and, and_true, Nat.add_sub_cancel, Bool.false_eq_true, u_nar2, fx_II, fx_AA, fx_LL, fx_I_1, fx_I_A, fx_I_L, fx_I_R, fx_I_Q, fx_A_1, fx_A_A, fx_A_L, fx_A_R, fx_A_Q, fx_L_1, fx_L_A, fx_L_L, fx_L_R, fx_L_Q, fx_R_1, fx_R_A, fx_R_L, fx_R_R, fx_R_Q, fx_Q_1, fx_Q_A, fx_Q_L, fx_Q_R, fx_Q_Q, Nat.reduceEqDiff, u_nar4, u_l3]
          · rw [hfr23.2.1 73 (by decide), hfr2'.2.1 73 (by decide)]
          · rw [hfr23.2.1 80 (by decide), hfr2'.2.1 80 (by decide)]
          · exact (hfr23.1 3466 (by decide)).trans ((hfr2'.1 3466 (by decide)).trans hd)
end
