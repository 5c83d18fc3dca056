/-! the reference: expand, and the words of an expansion -/
/-- the expansion of a line, if it is right -/
def xr (A : Nat → Option (List Nat)) (V : Nat → List Nat) (t : List Nat) : Option (List Nat) := match xe A V 6 t with
  | some e => if e.2 ≤ 120 then some e.1 else none
  | none => none
theorem xr_len {A : Nat → Option (List Nat)} {V : Nat → List Nat} {t o : List Nat} (h : xr A V t = some o) : o.length ≤ 120 := by
  unfold xr at h
  cases hx : xe A V 6 t with
  | none => rw [hx] at h; cases h
  | some e =>
    rw [hx] at h
    simp only at h
    have := xe_ge 6 t e hx
    split at h
    · cases h; omega
    · cases h
theorem xr_tk {A : Nat → Option (List Nat)} (hA : aok A) {V : Nat → List Nat} (hV : vok V) {t o : List Nat} (ht : tk t) (h : xr A V t = some o) : tk o := by
  unfold xr at h
  cases hx : xe A V 6 t with
  | none => rw [hx] at h; cases h
  | some e =>
    rw [hx] at h
    simp only at h
    split at h
    · cases h; exact xe_tk hA hV 6 t e ht hx
    · cases h
section
variable {σ : rb_St} {b : Nat} {F : fx_F} {T : List Nat} {gv df : Nat → Option (List Nat)} {A : Nat → Option (List Nat)}
theorem m_expand (hb : rb_b σ ≤ b) {x : Int32} (hA : m_cmd σ b F A x) (hAk : aok A) (hVk : vok (vl gv df)) (hF : fx_ln F) (hR : m_rd T gv df F) {p e : Nat} (hpe : p ≤ e) (he : e ≤ T.length) : ∃ F', f_M_expand (some (fx_ad b 34)) (nI p) (nI e) x (fx_mk σ b F) = some (some (.int (match xr A (vl gv df) (slc T p e) with | some _ => nI 1 | none => nI 0)), fx_mk σ b F') ∧ (∀ o, xr A (vl gv df) (slc T p e) = some o → m_out F' o) ∧ fx_ln F' ∧ fr zI zA [] F F' := by
  have h65 := hF.1 65
  have h66 := hF.1 66
  have h67 := hF.1 67
  simp only [fx_cI] at h65 h66 h67
  have hT3 := hR.2.1
  generalize hF1 : fx_A (fx_A (fx_A (fx_I (fx_I F 3444 (nI 0)) 3448 (nI 0)) 65 ((F.2.1 65).set 0 (-1))) 66 ((F.2.1 66).set 0 (nI p))) 67 ((F.2.1 67).set 0 (nI e)) = F1
  have hrun : f_M_expand (some (fx_ad b 34)) (nI p) (nI e) x (fx_mk σ b F) = rb_it (m_bd b x) (nI 1, fx_mk σ b F1) := by
    subst hF1
    unfold f_M_expand
    simp (disch := omega) only [↓fx_bm, ↓fx_vm hb, ↓reduceIte, n_ltT, n_ltF, n_leT, n_leF, n_eqT, n_eqF, nI_1, u_lt, u_le, u_eq, u_add, u_ix, u_ixL, u_ixR, u_cl, u_nm1, u_nm1', u_m1l, u_m1n, u_l0, Option.bind_some, Option.map_some, not_true_eq_false, not_false_eq_true, true_and, and_true, Nat.add_sub_cancel, Bool.false_eq_true, u_nar2, fx_II, fx_AA, fx_LL, fx_I_1, fx_I_A, fx_I_L, fx_I_R, fx_I_Q, fx_A_1, fx_A_A, fx_A_L, fx_A_R, fx_A_Q, fx_L_1, fx_L_A, fx_L_L, fx_L_R, fx_L_Q, fx_R_1, fx_R_A, fx_R_L, fx_R_R, fx_R_Q, fx_Q_1, fx_Q_A, fx_Q_L, fx_Q_R, fx_Q_Q]
    rfl
  have hfr1 : fr zI zA [] F F1 := by
    subst hF1
    exact fr_A (fr_A (fr_A (fr_I (fr_I (fr_refl _ _ _ _) (by decide)) (by decide)) (by decide)) (by decide)) (by decide)
  have hln1 : fx_ln F1 := by
    subst hF1
    exact fx_lnA (fx_lnA (fx_lnA (fx_lnI (fx_lnI hF)) (by rw [List.length_set]; exact hF.1 _)) (by rw [List.length_set]; exact hF.1 _)) (by rw [List.length_set]; exact hF.1 _)
  have hat : m_at F1 (6 - 6) none p e := by
    subst hF1
    refine ⟨?_, ?_, ?_, ?_⟩
    · simp only [fx_II, fx_AA, fx_LL, fx_I_1, fx_I_A, fx_I_L, fx_I_R, fx_I_Q, fx_A_1, fx_A_A, fx_A_L, fx_A_R, fx_A_Q, fx_L_1, fx_L_A, fx_L_L, fx_L_R, fx_L_Q, fx_R_1, fx_R_A, fx_R_L, fx_R_R, fx_R_Q, fx_Q_1, fx_Q_A, fx_Q_L, fx_Q_R, fx_Q_Q, Bool.false_eq_true, Option.bind_some, Option.map_some, rb_cI, rb_cL, rb_cR, rb_cV, reduceIte, ite_true, ite_false, not_true_eq_false, not_false_eq_true, true_and, and_true, Nat.reduceEqDiff, Nat.reduceAdd, Nat.reduceMul, Nat.add_sub_cancel]
    · simp only [fx_II, fx_AA, fx_LL, fx_I_1, fx_I_A, fx_I_L, fx_I_R, fx_I_Q, fx_A_1, fx_A_A, fx_A_L, fx_A_R, fx_A_Q, fx_L_1, fx_L_A, fx_L_L, fx_L_R, fx_L_Q, fx_R_1, fx_R_A, fx_R_L, fx_R_R, fx_R_Q, fx_Q_1, fx_Q_A, fx_Q_L, fx_Q_R, fx_Q_Q, Bool.false_eq_true, Option.bind_some, Option.map_some, rb_cI, rb_cL, rb_cR, rb_cV, reduceIte, ite_true, ite_false, not_true_eq_false, not_false_eq_true, true_and, and_true, Nat.reduceEqDiff, Nat.reduceAdd, Nat.reduceMul, Nat.add_sub_cancel]
      rw [set_get (by omega), if_pos rfl]
      rfl
    · simp only [fx_II, fx_AA, fx_LL, fx_I_1, fx_I_A, fx_I_L, fx_I_R, fx_I_Q, fx_A_1, fx_A_A, fx_A_L, fx_A_R, fx_A_Q, fx_L_1, fx_L_A, fx_L_L, fx_L_R, fx_L_Q, fx_R_1, fx_R_A, fx_R_L, fx_R_R, fx_R_Q, fx_Q_1, fx_Q_A, fx_Q_L, fx_Q_R, fx_Q_Q, Bool.false_eq_true, Option.bind_some, Option.map_some, rb_cI, rb_cL, rb_cR, rb_cV, reduceIte, ite_true, ite_false, not_true_eq_false, not_false_eq_true, true_and, and_true, Nat.reduceEqDiff, Nat.reduceAdd, Nat.reduceMul, Nat.add_sub_cancel]
      rw [set_get (by omega), if_pos rfl]
    · simp only [fx_II, fx_AA, fx_LL, fx_I_1, fx_I_A, fx_I_L, fx_I_R, fx_I_Q, fx_A_1, fx_A_A, fx_A_L, fx_A_R, fx_A_Q, fx_L_1, fx_L_A, fx_L_L, fx_L_R, fx_L_Q, fx_R_1, fx_R_A, fx_R_L, fx_R_R, fx_R_Q, fx_Q_1, fx_Q_A, fx_Q_L, fx_Q_R, fx_Q_Q, Bool.false_eq_true, Option.bind_some, Option.map_some, rb_cI, rb_cL, rb_cR, rb_cV, reduceIte, ite_true, ite_false, not_true_eq_false, not_false_eq_true, true_and, and_true, Nat.reduceEqDiff, Nat.reduceAdd, Nat.reduceMul, Nat.add_sub_cancel]
      rw [set_get (by omega), if_pos rfl]
  have hout : m_out F1 [] := by
    subst hF1
    exact ⟨by simp only [fx_II, fx_AA, fx_LL, fx_I_1, fx_I_A, fx_I_L, fx_I_R, fx_I_Q, fx_A_1, fx_A_A, fx_A_L, fx_A_R, fx_A_Q, fx_L_1, fx_L_A, fx_L_L, fx_L_R, fx_L_Q, fx_R_1, fx_R_A, fx_R_L, fx_R_R, fx_R_Q, fx_Q_1, fx_Q_A, fx_Q_L, fx_Q_R, fx_Q_Q, Bool.false_eq_true, Option.bind_some, Option.map_some, rb_cI, rb_cL, rb_cR, rb_cV, reduceIte, ite_true, ite_false, not_true_eq_false, not_false_eq_true, true_and, and_true, Nat.reduceEqDiff, Nat.reduceAdd, Nat.reduceMul, Nat.add_sub_cancel, List.length_nil], rk_nil _⟩
  obtain ⟨r1, r2⟩ := m_run (σ := σ) (b := b) (T := T) hb hA hAk hVk 6 (Nat.le_refl _) (e - p) F1 [] none p e (Nat.le_refl _) hpe he (fun m h => by cases h) hat hln1 hfr1 (m_rd_fr hR hfr1) (Nat.zero_le _) (fun c hc => by simp at hc) hout
  have hbs : bs T gv none = T := rfl
  rw [hbs] at r1 r2
  simp only [List.length_nil, List.nil_append, Nat.zero_add] at r1 r2
  have bad : xr A (vl gv df) (slc T p e) = none → ∃ F', f_M_expand (some (fx_ad b 34)) (nI p) (nI e) x (fx_mk σ b F) = some (some (.int (match xr A (vl gv df) (slc T p e) with | some _ => nI 1 | none => nI 0)), fx_mk σ b F') ∧ (∀ o, xr A (vl gv df) (slc T p e) = some o → m_out F' o) ∧ fx_ln F' ∧ fr zI zA [] F F' := by
    intro h
    obtain ⟨F', k1, k2, k3⟩ := r2 (fun ex g hx => by
      unfold xr at h
      rw [hx] at h
      simp only at h
      split at h
      · cases h
      · omega)
    refine ⟨F', ?_, ?_, k2, fr_trans hfr1 k3⟩
    · rw [hrun, k1, h]
    · rw [h]
      exact fun o h => by cases h
  cases hx : xe A (vl gv df) 6 (slc T p e) with
  | none =>
    refine bad ?_
    unfold xr
    rw [hx]
  | some E =>
    by_cases hg : E.2 ≤ 120
    · have hxr : xr A (vl gv df) (slc T p e) = some E.1 := by
        unfold xr
        rw [hx]
        exact if_pos hg
      obtain ⟨F', k1, k2, k3, k4, k5, k6⟩ := r1 E.1 E.2 hx hg
      obtain ⟨a1, a2, a3, a4⟩ := k2
      have hstep : m_bd b x (nI 1, fx_mk σ b F') = some (.inl (nI 1, fx_mk σ b (fx_I F' 3448 (-1)))) := by
        unfold m_bd f_M_expand_b34
        simp only
        rw [if_neg (show ¬ nI 1 = 0 by decide)]
        have h := m_leave0 (σ := σ) (b := b) (F := F') hb a1
        simp (disch := omega) only [↓fx_bm, ↓bx_of a1 (show 6 - 6 < 2147483648 by omega) a3, ↓bx_of a1 (show 6 - 6 < 2147483648 by omega) a4, ↓cI_of h, a1, ↓reduceIte, n_ltT, n_ltF, n_leT, n_leF, n_eqT, n_eqF, nI_1, u_lt, u_le, u_eq, u_add, u_ix, u_ixL, u_ixR, u_cl, u_nm1, u_nm1', u_m1l, u_m1n, u_l0, Option.bind_some, Option.map_some, not_true_eq_false, not_false_eq_true, true_and, and_true, Nat.add_sub_cancel, Bool.false_eq_true, u_nar2]
      refine ⟨fx_I F' 3448 (-1), ?_, ?_, fx_lnI k5, fr_trans hfr1 (fr_I k6 (by decide))⟩
      · rw [hrun, k1, rb_it_l hstep, hxr]
        refine rb_it_r ?_
        unfold m_bd f_M_expand_b34 f_M_expand_j134
        simp only
        rw [if_neg (show ¬ nI 1 = 0 by decide)]
        simp only [↓fx_bm, fx_II, fx_AA, fx_LL, fx_I_1, fx_I_A, fx_I_L, fx_I_R, fx_I_Q, fx_A_1, fx_A_A, fx_A_L, fx_A_R, fx_A_Q, fx_L_1, fx_L_A, fx_L_L, fx_L_R, fx_L_Q, fx_R_1, fx_R_A, fx_R_L, fx_R_R, fx_R_Q, fx_Q_1, fx_Q_A, fx_Q_L, fx_Q_R, fx_Q_Q, if_true]
        rw [if_pos (show (-1 : Int32) < 0 by decide), if_pos (show rb_isZ (nI 1) from Or.inr rfl)]
        rfl
      · rw [hxr]
        intro o h
        cases h
        exact k3
    · refine bad ?_
      unfold xr
      rw [hx]
      exact if_neg hg
end
