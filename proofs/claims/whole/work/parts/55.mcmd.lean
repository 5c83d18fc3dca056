/-! the reference: suffixes, commands -/
theorem it_any {α : Type} {body : Int32 × Int32 → Option ((Int32 × Int32) ⊕ α)} {n : Nat} (P : Nat → Bool) (res : Bool → Option α) (h : ∀ x k, k < n → body (nI (b2 x), nI k) = some (.inl (nI (b2 (x || P k)), nI (k + 1)))) (he : ∀ x, body (nI (b2 x), nI n) = (res x).map Sum.inr) : ∀ (m k : Nat) (x : Bool), k + m = n → rb_it body (nI (b2 x), nI k) = res (x || (sr P m k).isSome) := by
  intro m
  induction m with
  | zero =>
    intro k x hk
    have e : k = n := by omega
    subst e
    rw [rb_it_m (he x)]
    simp only [sr, Option.isSome_none, Bool.or_false]
  | succ m ih =>
    intro k x hk
    rw [rb_it_l (h x k (by omega)), ih (k + 1) _ (by omega)]
    by_cases e : P k = true
    · rw [sr_pos e, e]
      simp only [Option.isSome_some, Bool.or_true, Bool.true_or]
    · rw [sr_neg (by simpa using e), Bool.eq_false_iff.mpr e, Bool.or_false]
theorem b2_f : b2 false = 0 := (rfl)
theorem b2_t : b2 true = 1 := (rfl)
theorem isZ_b2 (x : Bool) : rb_isZ (nI (b2 x)) := by
  cases x
  · exact Or.inl rfl
  · exact Or.inr rfl
theorem bL_of {β : Type} {row : List Int64} {i : Int32} {j : Nat} {x : Int64} (hi : i = nI j) (hj : j < 2147483648) (h : row[j]? = some x) (k : Int64 → Option β) : (fx_ixL row i).bind k = k x := by
  rw [hi, u_ixL hj, h]
  rfl
section
variable {σ : rb_St} {b : Nat} {F : fx_F} {T : List Nat}
theorem m_isSuffix {S : List (List Nat)} (hS : S.length ≤ 6 ∧ ∀ k, k < S.length → sp_name (S.getD k []) = true) (hm : m_sf F S) {w : List Nat} (hw : pq_ok w) : f_M_isSuffix (some (fx_ad b 34)) (pk w) (fx_mk σ b F) = some (some (.int (nI (b2 (nf S w).isSome))), fx_mk σ b F) := by
  have h6 := hS.1
  unfold f_M_isSuffix
  have := it_any (body := fun z : Int32 × Int32 => f_M_isSuffix_b5 (some (fx_ad b 34)) (pk w) z.1 z.2 (fx_mk σ b F)) (n := S.length) (fun k => decide (S.getD k [] = w)) (fun x => some (some (.int (nI (b2 x))), fx_mk σ b F)) ?_ ?_ S.length 0 false (by omega)
  · rw [Bool.false_or] at this
    exact this
  · intro x k hk
    have a2 := sp_name_ok (hS.2 k hk)
    show f_M_isSuffix_b5 _ _ _ _ _ = _
    unfold f_M_isSuffix_b5
    cases x
    · by_cases e : S.getD k [] = w
      · simp (disch := omega) only [↓fx_bm, hm.1, ↓reduceIte, n_ltT, n_ltF, n_leT, n_leF, n_eqT, n_eqF, nI_1, u_lt, u_le, u_eq, u_add, u_ix, u_ixL, u_ixR, u_cl, u_nm1, u_nm1', u_m1l, u_m1n, u_l0, Option.bind_some, Option.map_some, not_true_eq_false, not_false_eq_true, true_and, and_true, Nat.add_sub_cancel, Bool.false_eq_true, u_nar2, b2_f, ↓bL_of rfl (show k < 2147483648 by omega) (hm.2 k hk), ↓pk_cmp a2.2.2 a2.1 hw, e, decide_true, Bool.or_true, b2_t, u_l1]
      · simp (disch := omega) only [↓fx_bm, hm.1, ↓reduceIte, n_ltT, n_ltF, n_leT, n_leF, n_eqT, n_eqF, nI_1, u_lt, u_le, u_eq, u_add, u_ix, u_ixL, u_ixR, u_cl, u_nm1, u_nm1', u_m1l, u_m1n, u_l0, Option.bind_some, Option.map_some, not_true_eq_false, not_false_eq_true, true_and, and_true, Nat.add_sub_cancel, Bool.false_eq_true, u_nar2, b2_f, ↓bL_of rfl (show k < 2147483648 by omega) (hm.2 k hk), ↓pk_cmp a2.2.2 a2.1 hw, e, decide_false, Bool.or_false, b2_f]
    · simp (disch := omega) only [↓fx_bm, hm.1, ↓reduceIte, n_ltT, n_ltF, n_leT, n_leF, n_eqT, n_eqF, nI_1, u_lt, u_le, u_eq, u_add, u_ix, u_ixL, u_ixR, u_cl, u_nm1, u_nm1', u_m1l, u_m1n, u_l0, Option.bind_some, Option.map_some, not_true_eq_false, not_false_eq_true, true_and, and_true, Nat.add_sub_cancel, Bool.false_eq_true, u_nar2, b2_t, Bool.true_or, u_l1]
  · intro x
    show f_M_isSuffix_b5 _ _ _ _ _ = _
    unfold f_M_isSuffix_b5
    simp (disch := omega) only [↓fx_bm, hm.1, ↓reduceIte, n_ltT, n_ltF, n_leT, n_leF, n_eqT, n_eqF, nI_1, u_lt, u_le, u_eq, u_add, u_ix, u_ixL, u_ixR, u_cl, u_nm1, u_nm1', u_m1l, u_m1n, u_l0, Option.bind_some, Option.map_some, not_true_eq_false, not_false_eq_true, true_and, and_true, Nat.add_sub_cancel, Bool.false_eq_true, u_nar2, if_pos (isZ_b2 x)]
/-- one more command -/
theorem m_cmdPush (hb : rb_b σ ≤ b) (hF : fx_ln F) {l : List (Nat × List Nat)} (hl : l.length < 30) (hm : m_cm F T l) {g : Nat} (hg : F.1 3439 = nI g) {p q : Nat} (hpq : p ≤ q) (hq : q ≤ T.length) : ∃ F', f_M_command_j230 (some (fx_ad b 34)) (nI p) (nI q) (fx_mk σ b F) = some (some (.int (nI 1)), fx_mk σ b F') ∧ m_cm F' T (l ++ [(g, slc T p q)]) ∧ fx_ln F' ∧ fr [3433] [56, 57, 58] [] F F' := by
  have h56 := hF.1 56
  have h57 := hF.1 57
  have h58 := hF.1 58
  simp only [fx_cI] at h56 h57 h58
  refine ⟨fx_I (fx_A (fx_A (fx_A F 56 ((F.2.1 56).set l.length (nI p))) 57 ((F.2.1 57).set l.length (nI q))) 58 ((F.2.1 58).set l.length (nI g))) 3433 (nI (l.length + 1)), ?_, ?_, ?_, ?_⟩
  · unfold f_M_command_j230
    simp (disch := omega) only [↓fx_bm, ↓fx_vm hb, hm.1, hg, ↓reduceIte, n_ltT, n_ltF, n_leT, n_leF, n_eqT, n_eqF, nI_1, u_lt, u_le, u_eq, u_add, u_ix, u_ixL, u_ixR, u_cl, u_nm1, u_nm1', u_m1l, u_m1n, u_l0, Option.bind_some, Option.map_some, not_true_eq_false, not_false_eq_true, true_and, and_true, Nat.add_sub_cancel, Bool.false_eq_true, u_nar2, fx_II, fx_AA, fx_LL, fx_I_1, fx_I_A, fx_I_L, fx_I_R, fx_I_Q, fx_A_1, fx_A_A, fx_A_L, fx_A_R, fx_A_Q, fx_L_1, fx_L_A, fx_L_L, fx_L_R, fx_L_Q, fx_R_1, fx_R_A, fx_R_L, fx_R_R, fx_R_Q, fx_Q_1, fx_Q_A, fx_Q_L, fx_Q_R, fx_Q_Q, Nat.reduceEqDiff, u_l1]
  · refine ⟨?_, fun k hk => ?_⟩
    · simp only [fx_II, fx_AA, fx_LL, fx_I_1, fx_I_A, fx_I_L, fx_I_R, fx_I_Q, fx_A_1, fx_A_A, fx_A_L, fx_A_R, fx_A_Q, fx_L_1, fx_L_A, fx_L_L, fx_L_R, fx_L_Q, fx_R_1, fx_R_A, fx_R_L, fx_R_R, fx_R_Q, fx_Q_1, fx_Q_A, fx_Q_L, fx_Q_R, fx_Q_Q, Bool.false_eq_true, Option.bind_some, Option.map_some, rb_cI, rb_cL, rb_cR, rb_cV, reduceIte, ite_true, ite_false, not_true_eq_false, not_false_eq_true, true_and, and_true, Nat.reduceEqDiff, Nat.reduceAdd, Nat.reduceMul, Nat.add_sub_cancel, List.length_append, List.length_cons, List.length_nil]
    · rw [List.length_append, List.length_cons, List.length_nil] at hk
      simp only [fx_II, fx_AA, fx_LL, fx_I_1, fx_I_A, fx_I_L, fx_I_R, fx_I_Q, fx_A_1, fx_A_A, fx_A_L, fx_A_R, fx_A_Q, fx_L_1, fx_L_A, fx_L_L, fx_L_R, fx_L_Q, fx_R_1, fx_R_A, fx_R_L, fx_R_R, fx_R_Q, fx_Q_1, fx_Q_A, fx_Q_L, fx_Q_R, fx_Q_Q, Bool.false_eq_true, Option.bind_some, Option.map_some, rb_cI, rb_cL, rb_cR, rb_cV, reduceIte, ite_true, ite_false, not_true_eq_false, not_false_eq_true, true_and, and_true, Nat.reduceEqDiff, Nat.reduceAdd, Nat.reduceMul, Nat.add_sub_cancel]
      rw [set_get (by omega), set_get (by omega), set_get (by omega)]
      by_cases e : k = l.length
      · subst e
        refine ⟨p, q, hpq, hq, if_pos rfl, if_pos rfl, ?_, ?_⟩
        · rw [if_pos rfl, getD_app_r]
        · rw [getD_app_r]
      · rw [if_neg e, if_neg e, if_neg e, getD_app_l (by omega)]
        exact hm.2 k (by omega)
  · refine fx_lnI (fx_lnA (fx_lnA (fx_lnA hF ?_) ?_) ?_)
    · rw [List.length_set]; exact hF.1 _
    · rw [List.length_set]; exact hF.1 _
    · rw [List.length_set]; exact hF.1 _
  · refine fr_I (fr_A (fr_A (fr_A (fr_refl _ _ _ _) ?_) ?_) ?_) ?_ <;> decide
/-- the latest line's targets get its commands -/
theorem m_cmdOwn (hb : rb_b σ ≤ b) {x1 x2 : Int32} {n g : Nat} (hn : n ≤ 32) {bit : Nat → Bool} {tg : Int32} (hbit : ∀ k, k < 32 → ((tg >>> (nI k &&& 31)) &&& 1 = 1) = (bit k = true)) : ∀ (m k : Nat) (F : fx_F), k + m = n → fx_ln F → F.1 3402 = nI n → F.1 3439 = nI g → F.1 3440 = nI 4 → F.1 3441 = tg → ∃ F', rb_it (fun z : (Int32 × rb_St) => f_M_command_b173 (some (fx_ad b 34)) x1 x2 (z.1) z.2) (nI k, fx_mk σ b F) = f_M_command_j230 (some (fx_ad b 34)) x1 x2 (fx_mk σ b F') ∧ (∀ j, j < 32 → (F'.2.1 53)[j]? = if k ≤ j ∧ j < n ∧ bit j = true then some (nI g) else (F.2.1 53)[j]?) ∧ fx_ln F' ∧ fr [] [53] [] F F' := by
  intro m
  induction m with
  | zero =>
    intro k F hk hF h1 h2 h3 h4
    refine ⟨F, ?_, fun j hj => ?_, hF, fr_refl _ _ _ _⟩
    · refine rb_it_m ?_
      show f_M_command_b173 _ _ _ _ _ = _
      unfold f_M_command_b173
      simp (disch := omega) only [↓fx_bm, h1, ↓reduceIte, n_ltT, n_ltF, n_leT, n_leF, n_eqT, n_eqF, nI_1, u_lt, u_le, u_eq, u_add, u_ix, u_ixL, u_ixR, u_cl, u_nm1, u_nm1', u_m1l, u_m1n, u_l0, Option.bind_some, Option.map_some, not_true_eq_false, not_false_eq_true, true_and, and_true, Nat.add_sub_cancel, Bool.false_eq_true, u_nar2]
    · rw [if_neg (by omega)]
  | succ m ih =>
    intro k F hk hF h1 h2 h3 h4
    have h53 := hF.1 53
    simp only [fx_cI] at h53
    have hx : ∃ x, (F.2.1 53)[k]? = some x := ⟨_, List.getElem?_eq_getElem (by omega)⟩
    obtain ⟨x, hx⟩ := hx
    have hstep : f_M_command_b173 (some (fx_ad b 34)) x1 x2 (nI k) (fx_mk σ b F) = some (.inl (nI (k + 1), fx_mk σ b (fx_A F 53 ((F.2.1 53).set k (if bit k = true then nI g else x))))) := by
      unfold f_M_command_b173
      by_cases e : bit k = true
      · simp (disch := omega) only [↓fx_bm, ↓fx_vm hb, h1, h2, h3, h4, u_l4, ↓hbit k (by omega), e, ↓reduceIte, n_ltT, n_ltF, n_leT, n_leF, n_eqT, n_eqF, nI_1, u_lt, u_le, u_eq, u_add, u_ix, u_ixL, u_ixR, u_cl, u_nm1, u_nm1', u_m1l, u_m1n, u_l0, Option.bind_some, Option.map_some, not_true_eq_false, not_false_eq_true, true_and, and_true, Nat.add_sub_cancel, Bool.false_eq_true, u_nar2]
      · simp (disch := omega) only [↓fx_bm, ↓fx_vm hb, h1, h2, h3, h4, u_l4, ↓hbit k (by omega), e, ↓bx_of rfl (show k < 2147483648 by omega) hx, ↓reduceIte, n_ltT, n_ltF, n_leT, n_leF, n_eqT, n_eqF, nI_1, u_lt, u_le, u_eq, u_add, u_ix, u_ixL, u_ixR, u_cl, u_nm1, u_nm1', u_m1l, u_m1n, u_l0, Option.bind_some, Option.map_some, not_true_eq_false, not_false_eq_true, true_and, and_true, Nat.add_sub_cancel, Bool.false_eq_true, u_nar2]
    obtain ⟨F', e1, e2, e3, e4⟩ := ih (k + 1) (fx_A F 53 ((F.2.1 53).set k (if bit k = true then nI g else x))) (by omega) (fx_lnA hF (by rw [List.length_set]; exact hF.1 _)) h1 h2 h3 h4
    refine ⟨F', ?_, fun j hj => ?_, e3, fr_trans (fr_A (fr_refl _ _ _ _) (by decide)) e4⟩
    · rw [← e1]
      exact rb_it_l hstep
    · rw [e2 j hj, fx_A_A, if_pos rfl, set_get (by omega)]
      by_cases ej : j = k
      · subst ej
        rw [if_neg (by omega), if_pos rfl]
        by_cases eb : bit j = true
        · rw [if_pos eb, if_pos ⟨Nat.le_refl _, by omega, eb⟩]
        · rw [if_neg eb, if_neg (fun h => eb h.2.2), hx]
      · rw [if_neg ej]
        by_cases eb : k ≤ j ∧ j < n ∧ bit j = true
        · rw [if_pos eb, if_pos ⟨by omega, eb.2⟩]
        · rw [if_neg eb, if_neg (fun h => eb ⟨by omega, h.2⟩)]
theorem m_cmdSkip {x1 x2 : Int32} {n kd : Nat} (hn : n ≤ 32) (h1 : F.1 3402 = nI n) (h3 : F.1 3440 = nI kd) (hk : kd < 4) : rb_it (fun z : (Int32 × rb_St) => f_M_command_b173 (some (fx_ad b 34)) x1 x2 (z.1) z.2) (nI 0, fx_mk σ b F) = f_M_command_j230 (some (fx_ad b 34)) x1 x2 (fx_mk σ b F) := by
  refine rb_it_m ?_
  show f_M_command_b173 _ _ _ _ _ = _
  unfold f_M_command_b173
  by_cases e : n = 0
  · simp (disch := omega) only [↓fx_bm, h1, ↓reduceIte, n_ltT, n_ltF, n_leT, n_leF, n_eqT, n_eqF, nI_1, u_lt, u_le, u_eq, u_add, u_ix, u_ixL, u_ixR, u_cl, u_nm1, u_nm1', u_m1l, u_m1n, u_l0, Option.bind_some, Option.map_some, not_true_eq_false, not_false_eq_true, true_and, and_true, Nat.add_sub_cancel, Bool.false_eq_true, u_nar2]
  · simp (disch := omega) only [↓fx_bm, h1, h3, u_l4, ↓reduceIte, n_ltT, n_ltF, n_leT, n_leF, n_eqT, n_eqF, nI_1, u_lt, u_le, u_eq, u_add, u_ix, u_ixL, u_ixR, u_cl, u_nm1, u_nm1', u_m1l, u_m1n, u_l0, Option.bind_some, Option.map_some, not_true_eq_false, not_false_eq_true, true_and, and_true, Nat.add_sub_cancel, Bool.false_eq_true, u_nar2]
theorem m_cmdSkip2 {x1 x2 x3 : Int32} {n kd : Nat} (hn : n ≤ 32) (h1 : F.1 3402 = nI n) (h3 : F.1 3440 = nI kd) (hk : kd < 4) : rb_it (fun z : (Int32 × Int32) => f_M_command_b54 (some (fx_ad b 34)) x1 x2 (z.1) (z.2) (fx_mk σ b F)) (x3, nI 0) = f_M_command_j124 (some (fx_ad b 34)) x1 x2 x3 (fx_mk σ b F) := by
  refine rb_it_m ?_
  show f_M_command_b54 _ _ _ _ _ _ = _
  unfold f_M_command_b54
  by_cases e : n = 0
  · simp (disch := omega) only [↓fx_bm, h1, ↓reduceIte, n_ltT, n_ltF, n_leT, n_leF, n_eqT, n_eqF, nI_1, u_lt, u_le, u_eq, u_add, u_ix, u_ixL, u_ixR, u_cl, u_nm1, u_nm1', u_m1l, u_m1n, u_l0, Option.bind_some, Option.map_some, not_true_eq_false, not_false_eq_true, true_and, and_true, Nat.add_sub_cancel, Bool.false_eq_true, u_nar2]
  · simp (disch := omega) only [↓fx_bm, h1, h3, u_l4, ↓reduceIte, n_ltT, n_ltF, n_leT, n_leF, n_eqT, n_eqF, nI_1, u_lt, u_le, u_eq, u_add, u_ix, u_ixL, u_ixR, u_cl, u_nm1, u_nm1', u_m1l, u_m1n, u_l0, Option.bind_some, Option.map_some, not_true_eq_false, not_false_eq_true, true_and, and_true, Nat.add_sub_cancel, Bool.false_eq_true, u_nar2]
theorem m_cmdTaken {x1 x2 : Int32} {n g : Nat} (hn : n ≤ 32) (h1 : F.1 3402 = nI n) (h3 : F.1 3440 = nI 4) (h2 : F.1 3439 = nI g) (hg : g ≤ 1000) {bit : Nat → Bool} (hbit : ∀ k, k < 32 → ((F.1 3441 >>> (nI k &&& 31)) &&& 1 = 1) = (bit k = true)) {ow : Nat → Option Nat} (how : m_ow F ow) (hol : ∀ k g', ow k = some g' → g' ≤ g) : rb_it (fun z : (Int32 × Int32) => f_M_command_b54 (some (fx_ad b 34)) x1 x2 (z.1) (z.2) (fx_mk σ b F)) (nI 0, nI 0) = f_M_command_j124 (some (fx_ad b 34)) x1 x2 (nI (b2 (sr (fun k => bit k && (match ow k with | some g' => decide (g' ≠ g) | none => false)) n 0).isSome)) (fx_mk σ b F) := by
  have := it_any (body := fun z : Int32 × Int32 => f_M_command_b54 (some (fx_ad b 34)) x1 x2 z.1 z.2 (fx_mk σ b F)) (n := n) (fun k => bit k && (match ow k with | some g' => decide (g' ≠ g) | none => false)) (fun x => f_M_command_j124 (some (fx_ad b 34)) x1 x2 (nI (b2 x)) (fx_mk σ b F)) ?_ ?_ n 0 false (by omega)
  · rw [Bool.false_or] at this
    exact this
  · intro x k hk
    have ha := how k (by omega)
    show f_M_command_b54 _ _ _ _ _ _ = _
    unfold f_M_command_b54
    cases x
    · by_cases e : bit k = true
      · cases ho : ow k with
        | none =>
          rw [ho, oi_none] at ha
          simp (disch := omega) only [↓fx_bm, h1, h2, h3, u_l4, b2_f, ↓hbit k (by omega), e, ↓bx_of rfl (show k < 2147483648 by omega) ha, u_m10, Bool.or_false, Bool.and_false, ↓reduceIte, n_ltT, n_ltF, n_leT, n_leF, n_eqT, n_eqF, nI_1, u_lt, u_le, u_eq, u_add, u_ix, u_ixL, u_ixR, u_cl, u_nm1, u_nm1', u_m1l, u_m1n, u_l0, Option.bind_some, Option.map_some, not_true_eq_false, not_false_eq_true, true_and, and_true, Nat.add_sub_cancel, Bool.false_eq_true, u_nar2]
        | some g' =>
          have hg' := hol k g' ho
          rw [ho, oi_some] at ha
          by_cases eg : g' = g
          · subst eg
            simp (disch := omega) only [↓fx_bm, h1, h2, h3, u_l4, b2_f, ↓hbit k (by omega), e, ↓bx_of rfl (show k < 2147483648 by omega) ha, ↓reduceIte, n_ltT, n_ltF, n_leT, n_leF, n_eqT, n_eqF, nI_1, u_lt, u_le, u_eq, u_add, u_ix, u_ixL, u_ixR, u_cl, u_nm1, u_nm1', u_m1l, u_m1n, u_l0, Option.bind_some, Option.map_some, not_true_eq_false, not_false_eq_true, true_and, and_true, Nat.add_sub_cancel, Bool.false_eq_true, u_nar2, ne_eq, decide_false, Bool.or_false, Bool.and_false]
          · simp (disch := omega) only [↓fx_bm, h1, h2, h3, u_l4, b2_f, ↓hbit k (by omega), e, ↓bx_of rfl (show k < 2147483648 by omega) ha, ↓reduceIte, n_ltT, n_ltF, n_leT, n_leF, n_eqT, n_eqF, nI_1, u_lt, u_le, u_eq, u_add, u_ix, u_ixL, u_ixR, u_cl, u_nm1, u_nm1', u_m1l, u_m1n, u_l0, Option.bind_some, Option.map_some, not_true_eq_false, not_false_eq_true, true_and, and_true, Nat.add_sub_cancel, Bool.false_eq_true, u_nar2, ne_eq, eg, decide_true, Bool.or_true, Bool.and_true, b2_t, u_l1]
      · simp (disch := omega) only [↓fx_bm, h1, h2, h3, u_l4, b2_f, ↓hbit k (by omega), e, Bool.false_and, Bool.or_false, ↓reduceIte, n_ltT, n_ltF, n_leT, n_leF, n_eqT, n_eqF, nI_1, u_lt, u_le, u_eq, u_add, u_ix, u_ixL, u_ixR, u_cl, u_nm1, u_nm1', u_m1l, u_m1n, u_l0, Option.bind_some, Option.map_some, not_true_eq_false, not_false_eq_true, true_and, and_true, Nat.add_sub_cancel, Bool.false_eq_true, u_nar2]
    · simp (disch := omega) only [↓fx_bm, h1, h3, u_l4, ↓reduceIte, n_ltT, n_ltF, n_leT, n_leF, n_eqT, n_eqF, nI_1, u_lt, u_le, u_eq, u_add, u_ix, u_ixL, u_ixR, u_cl, u_nm1, u_nm1', u_m1l, u_m1n, u_l0, Option.bind_some, Option.map_some, not_true_eq_false, not_false_eq_true, true_and, and_true, Nat.add_sub_cancel, Bool.false_eq_true, u_nar2, b2_t, Bool.true_or, u_l1]
  · intro x
    show f_M_command_b54 _ _ _ _ _ _ = _
    unfold f_M_command_b54
    simp (disch := omega) only [↓fx_bm, h1, ↓reduceIte, n_ltT, n_ltF, n_leT, n_leF, n_eqT, n_eqF, nI_1, u_lt, u_le, u_eq, u_add, u_ix, u_ixL, u_ixR, u_cl, u_nm1, u_nm1', u_m1l, u_m1n, u_l0, Option.bind_some, Option.map_some, not_true_eq_false, not_false_eq_true, true_and, and_true, Nat.add_sub_cancel, Bool.false_eq_true, u_nar2]
theorem m_cmdA {R : RS} (hR : rok R) (hm : m_rules F T R) (h2 : 2 ≤ rNu R 1) (h30 : (rCm R).length ≠ 30) {x1 x2 : Int32} : f_M_command (some (fx_ad b 34)) x1 x2 (fx_mk σ b F) = f_M_command_j124 (some (fx_ad b 34)) x1 x2 (nI (b2 (x_taken R))) (fx_mk σ b F) := by
  obtain ⟨g1, g2, g3, g4, g5, g6, g7, g8, g9, g10, g11, g12⟩ := hm
  obtain ⟨r1, r2, r3, r4, r5, r6, r7, r8, r9, r10, r11, r12, r13⟩ := hR
  have n32 := r1.1
  have q1 := g11.1
  have q2 := g11.2
  unfold f_M_command
  by_cases k2 : rNu R 1 = 2
  · rw [k2] at q2
    have q3 := g9.1
    unfold x_taken
    rw [if_pos k2]
    cases ho : rOp R 0 with
    | none =>
      rw [ho, oi_none] at q3
      simp (disch := omega) only [↓fx_bm, g4.1, q1, q2, q3, u_l2, show (30 : Int32) = nI 30 from rfl, u_m10, ↓reduceIte, n_ltT, n_ltF, n_leT, n_leF, n_eqT, n_eqF, nI_1, u_lt, u_le, u_eq, u_add, u_ix, u_ixL, u_ixR, u_cl, u_nm1, u_nm1', u_m1l, u_m1n, u_l0, Option.bind_some, Option.map_some, not_true_eq_false, not_false_eq_true, true_and, and_true, Nat.add_sub_cancel, Bool.false_eq_true, u_nar2, m_cmdSkip2 n32 g1.1 q2, b2_f]
    | some g' =>
      have hg' := r12 g' ho
      rw [ho, oi_some] at q3
      by_cases eg : g' = rNu R 0
      · simp (disch := omega) only [↓fx_bm, g4.1, q1, q2, q3, u_l2, show (30 : Int32) = nI 30 from rfl, u_m10, ↓reduceIte, n_ltT, n_ltF, n_leT, n_leF, n_eqT, n_eqF, nI_1, u_lt, u_le, u_eq, u_add, u_ix, u_ixL, u_ixR, u_cl, u_nm1, u_nm1', u_m1l, u_m1n, u_l0, Option.bind_some, Option.map_some, not_true_eq_false, not_false_eq_true, true_and, and_true, Nat.add_sub_cancel, Bool.false_eq_true, u_nar2, m_cmdSkip2 n32 g1.1 q2, ne_eq, eg, decide_false, b2_f]
      · simp (disch := omega) only [↓fx_bm, g4.1, q1, q2, q3, u_l2, u_l1, show (30 : Int32) = nI 30 from rfl, u_m10, ↓reduceIte, n_ltT, n_ltF, n_leT, n_leF, n_eqT, n_eqF, nI_1, u_lt, u_le, u_eq, u_add, u_ix, u_ixL, u_ixR, u_cl, u_nm1, u_nm1', u_m1l, u_m1n, u_l0, Option.bind_some, Option.map_some, not_true_eq_false, not_false_eq_true, true_and, and_true, Nat.add_sub_cancel, Bool.false_eq_true, u_nar2, m_cmdSkip2 n32 g1.1 q2, ne_eq, eg, decide_true, b2_t]
  · by_cases k4 : rNu R 1 = 4
    · have c4 := g12.2 k4
      have hx : x_taken R = (sr (fun k => rFl R 4 k && (match rOw R k with | some g => decide (g ≠ rNu R 0) | none => false)) (rN R).length 0).isSome := by
        unfold x_taken
        rw [if_neg k2, if_pos k4]
        rfl
      rw [k4] at q2
      rw [hx, ← m_cmdTaken n32 g1.1 q2 q1 r8 c4 g7 (fun k g' h => (r11 k g' h).1)]
      simp (disch := omega) only [↓fx_bm, g4.1, q1, q2, u_l2, show (30 : Int32) = nI 30 from rfl, ↓reduceIte, n_ltT, n_ltF, n_leT, n_leF, n_eqT, n_eqF, nI_1, u_lt, u_le, u_eq, u_add, u_ix, u_ixL, u_ixR, u_cl, u_nm1, u_nm1', u_m1l, u_m1n, u_l0, Option.bind_some, Option.map_some, not_true_eq_false, not_false_eq_true, true_and, and_true, Nat.add_sub_cancel, Bool.false_eq_true, u_nar2]
    · have k3 : rNu R 1 = 3 := by omega
      rw [k3] at q2
      have hx : x_taken R = false := by
        unfold x_taken
        rw [if_neg k2, if_neg k4]
      rw [hx]
      simp (disch := omega) only [↓fx_bm, g4.1, q1, q2, u_l2, show (30 : Int32) = nI 30 from rfl, ↓reduceIte, n_ltT, n_ltF, n_leT, n_leF, n_eqT, n_eqF, nI_1, u_lt, u_le, u_eq, u_add, u_ix, u_ixL, u_ixR, u_cl, u_nm1, u_nm1', u_m1l, u_m1n, u_l0, Option.bind_some, Option.map_some, not_true_eq_false, not_false_eq_true, true_and, and_true, Nat.add_sub_cancel, Bool.false_eq_true, u_nar2, m_cmdSkip2 n32 g1.1 q2, b2_f]
theorem m_command (hb : rb_b σ ≤ b) (hF : fx_ln F) {R : RS} (hR : rok R) (hm : m_rules F T R) {p q : Nat} (hpq : p ≤ q) (hq : q ≤ T.length) : ∃ F', f_M_command (some (fx_ad b 34)) (nI p) (nI q) (fx_mk σ b F) = some (some (.int (nI (b2 (x_cmd R (slc T p q)).1))), fx_mk σ b F') ∧ m_rules F' T (x_cmd R (slc T p q)).2 ∧ fx_ln F' ∧ fr [3433, 3438] [53, 56, 57, 58, 61] [] F F' := by
  by_cases c1 : rNu R 1 < 2
  · have hx : x_cmd R (slc T p q) = (false, R) := if_pos (Or.inl c1)
    rw [hx]
    refine ⟨F, ?_, hm, hF, fr_refl _ _ _ _⟩
    have q2 := hm.2.2.2.2.2.2.2.2.2.2.1.2
    unfold f_M_command
    simp (disch := omega) only [↓fx_bm, q2, u_l2, ↓reduceIte, n_ltT, n_ltF, n_leT, n_leF, n_eqT, n_eqF, nI_1, u_lt, u_le, u_eq, u_add, u_ix, u_ixL, u_ixR, u_cl, u_nm1, u_nm1', u_m1l, u_m1n, u_l0, Option.bind_some, Option.map_some, not_true_eq_false, not_false_eq_true, true_and, and_true, Nat.add_sub_cancel, Bool.false_eq_true, u_nar2, b2_f]
  · by_cases c2 : (rCm R).length = 30
    · have hx : x_cmd R (slc T p q) = (false, R) := if_pos (Or.inr (Or.inl c2))
      rw [hx]
      refine ⟨F, ?_, hm, hF, fr_refl _ _ _ _⟩
      have q2 := hm.2.2.2.2.2.2.2.2.2.2.1.2
      have q4 := hm.2.2.2.1.1
      have r9 := hR.2.2.2.2.2.2.2.2.1
      rw [c2] at q4
      unfold f_M_command
      simp (disch := omega) only [↓fx_bm, q2, q4, u_l2, show (30 : Int32) = nI 30 from rfl, ↓reduceIte, n_ltT, n_ltF, n_leT, n_leF, n_eqT, n_eqF, nI_1, u_lt, u_le, u_eq, u_add, u_ix, u_ixL, u_ixR, u_cl, u_nm1, u_nm1', u_m1l, u_m1n, u_l0, Option.bind_some, Option.map_some, not_true_eq_false, not_false_eq_true, true_and, and_true, Nat.add_sub_cancel, Bool.false_eq_true, u_nar2, b2_f]
    · rw [m_cmdA hR hm (by omega) c2]
      by_cases c3 : x_taken R = true
      · have hx : x_cmd R (slc T p q) = (false, R) := if_pos (Or.inr (Or.inr c3))
        rw [hx, c3]
        refine ⟨F, ?_, hm, hF, fr_refl _ _ _ _⟩
        unfold f_M_command_j124
        simp (disch := omega) only [↓reduceIte, n_ltT, n_ltF, n_leT, n_leF, n_eqT, n_eqF, nI_1, u_lt, u_le, u_eq, u_add, u_ix, u_ixL, u_ixR, u_cl, u_nm1, u_nm1', u_m1l, u_m1n, u_l0, Option.bind_some, Option.map_some, not_true_eq_false, not_false_eq_true, true_and, and_true, Nat.add_sub_cancel, Bool.false_eq_true, u_nar2, b2_t, b2_f]
      · have hx : x_cmd R (slc T p q) = (true, x_cmdR R (slc T p q)) := if_neg (by rintro (h | h | h) <;> contradiction)
        rw [hx, Bool.eq_false_iff.mpr c3]
        obtain ⟨g1, g2, g3, g4, g5, g6, g7, g8, g9, g10, g11, g12⟩ := hm
        obtain ⟨r1, r2, r3, r4, r5, r6, r7, r8, r9, r10, r11, r12, r13⟩ := hR
        have n32 := r1.1
        have q1 := g11.1
        have q2 := g11.2
        have l30 : (rCm R).length < 30 := by omega
        unfold f_M_command_j124
        by_cases k2 : rNu R 1 = 2
        · have hy : x_cmdR R (slc T p q) = wCm (wOp R (up1 (rOp R) 0 (some (rNu R 0)))) (rCm R ++ [(rNu R 0, slc T p q)]) := by
            unfold x_cmdR
            rw [if_pos k2]
          rw [hy]
          rw [k2] at q2
          have hf1 : fr [3433, 3438] [56, 57, 58] [] F (fx_I F 3438 (nI (rNu R 0))) := fr_I (fr_refl _ _ _ _) (by decide)
          obtain ⟨F', e1, e2, e3, e4⟩ := m_cmdPush (F := fx_I F 3438 (nI (rNu R 0))) (σ := σ) (b := b) (T := T) hb (fx_lnI hF) l30 (m_cm_fr g4 (fr_I (zi := [3438]) (za := []) (zl := []) (fr_refl _ _ _ _) (by decide)) (by decide)) (g := rNu R 0) q1 hpq hq
          have hfr : fr [3433, 3438] [56, 57, 58] [] F F' := fr_trans hf1 (fr_mono e4 (by simp) (by simp) (by simp))
          refine ⟨F', ?_, ⟨m_names_fr g1 hfr (by decide), m_sf_fr g2 hfr (by decide), m_en_fr g3 hfr (by decide), e2, m_pr_fr g5 hfr (by decide), m_defd_fr g6 hfr (by decide), m_ow_fr g7 hfr (by decide), m_fl_fr g8 hfr (by decide), ⟨?_, ?_⟩, m_bo_fr g10 hfr (by decide), m_nu_fr g11 hfr (by decide), ⟨fun h => ?_, fun h => ?_⟩⟩, e3, fr_mono hfr (by simp) (by simp) (by simp)⟩
          · rw [b2_f, b2_t]
            simp (disch := omega) only [↓fx_bm, ↓fx_vm hb, q1, q2, u_l2, ↓reduceIte, n_ltT, n_ltF, n_leT, n_leF, n_eqT, n_eqF, nI_1, u_lt, u_le, u_eq, u_add, u_ix, u_ixL, u_ixR, u_cl, u_nm1, u_nm1', u_m1l, u_m1n, u_l0, Option.bind_some, Option.map_some, not_true_eq_false, not_false_eq_true, true_and, and_true, Nat.add_sub_cancel, Bool.false_eq_true, u_nar2]
            rw [m_cmdSkip (F := fx_I F 3438 (nI (rNu R 0))) n32 g1.1 q2 (by omega)]
            exact e1
          · rw [e4.1 3438 (by decide)]
            show (if 3438 = 3438 then nI (rNu R 0) else F.1 3438) = oi (some (rNu R 0))
            rw [if_pos rfl]
            rfl
          · rw [e4.1 3426 (by decide)]
            exact g9.2
          · exact absurd (k2.symm.trans h) (by decide)
          · exact absurd (k2.symm.trans h) (by decide)
        · by_cases k3 : rNu R 1 = 3
          · obtain ⟨en, ee1, ee2, ee3⟩ := g12.1 k3
            have hy : x_cmdR R (slc T p q) = wCm (wEn R ((rEn R).set en (((rEn R).getD en (([], []), none)).1, some (rNu R 0)))) (rCm R ++ [(rNu R 0, slc T p q)]) := by
              unfold x_cmdR
              rw [if_neg k2, if_pos k3, ee1]
              rfl
            rw [hy]
            rw [k3] at q2
            have h61 := hF.1 61
            simp only [fx_cI] at h61
            have h8 := r3.1
            have hf1 : fr [3433] [61, 56, 57, 58] [] F (fx_A F 61 ((F.2.1 61).set en (nI (rNu R 0)))) := fr_A (fr_refl _ _ _ _) (by decide)
            obtain ⟨F', e1, e2, e3, e4⟩ := m_cmdPush (F := fx_A F 61 ((F.2.1 61).set en (nI (rNu R 0)))) (σ := σ) (b := b) (T := T) hb (fx_lnA hF (by rw [List.length_set]; exact hF.1 _)) l30 (m_cm_fr g4 (fr_A (zi := []) (za := [61]) (zl := []) (fr_refl _ _ _ _) (by decide)) (by decide)) (g := rNu R 0) q1 hpq hq
            have hfr : fr [3433] [61, 56, 57, 58] [] F F' := fr_trans hf1 (fr_mono e4 (by simp) (by simp) (by simp))
            refine ⟨F', ?_, ⟨m_names_fr g1 hfr (by decide), m_sf_fr g2 hfr (by decide), ⟨?_, fun k hk => ?_⟩, e2, m_pr_fr g5 hfr (by decide), m_defd_fr g6 hfr (by decide), m_ow_fr g7 hfr (by decide), m_fl_fr g8 hfr (by decide), m_op_fr g9 hfr (by decide), m_bo_fr g10 hfr (by decide), m_nu_fr g11 hfr (by decide), ⟨fun h => ⟨en, ee1, ?_, ?_⟩, fun h => ?_⟩⟩, e3, fr_mono hfr (by simp) (by simp) (by simp)⟩
            · rw [b2_f, b2_t]
              simp (disch := omega) only [↓fx_bm, ↓fx_vm hb, q1, q2, ee3, u_l2, u_l3, ↓reduceIte, n_ltT, n_ltF, n_leT, n_leF, n_eqT, n_eqF, nI_1, u_lt, u_le, u_eq, u_add, u_ix, u_ixL, u_ixR, u_cl, u_nm1, u_nm1', u_m1l, u_m1n, u_l0, Option.bind_some, Option.map_some, not_true_eq_false, not_false_eq_true, true_and, and_true, Nat.add_sub_cancel, Bool.false_eq_true, u_nar2]
              rw [m_cmdSkip (F := fx_A F 61 ((F.2.1 61).set en (nI (rNu R 0)))) n32 g1.1 q2 (by omega)]
              exact e1
            · rw [hfr.1 3437 (by decide), List.length_set]
              exact g3.1
            · rw [List.length_set] at hk
              have a := g3.2 k hk
              rw [hfr.2.2.1 59 (by decide), hfr.2.2.1 60 (by decide), e4.2.1 61 (by decide), fx_A_A, if_pos rfl, set_get (by omega)]
              by_cases ek : k = en
              · subst ek
                rw [if_pos rfl, List.getD_eq_getElem?_getD, List.getElem?_set_self (by omega)]
                exact ⟨a.1, a.2.1, rfl⟩
              · rw [if_neg ek, List.getD_eq_getElem?_getD, List.getElem?_set_ne (fun h => ek h.symm), ← List.getD_eq_getElem?_getD]
                exact a
            · rw [List.length_set]
              exact ee2
            · rw [hfr.1 3442 (by decide)]
              exact ee3
            · exact absurd (k3.symm.trans h) (by decide)
          · have k4 : rNu R 1 = 4 := by omega
            have c4 := g12.2 k4
            have hy : x_cmdR R (slc T p q) = wCm (wOw R (fun k => if k < (rN R).length ∧ rFl R 4 k = true then some (rNu R 0) else rOw R k)) (rCm R ++ [(rNu R 0, slc T p q)]) := by
              unfold x_cmdR
              rw [if_neg k2, if_neg k3]
            rw [hy]
            rw [k4] at q2
            obtain ⟨F1, a1, a2, a3, a4⟩ := m_cmdOwn (σ := σ) (b := b) hb (x1 := nI p) (x2 := nI q) n32 c4 (rN R).length 0 F (by omega) hF g1.1 q1 q2 rfl
            obtain ⟨F', e1, e2, e3, e4⟩ := m_cmdPush (F := F1) (σ := σ) (b := b) (T := T) hb a3 l30 (m_cm_fr g4 a4 (by decide)) (g := rNu R 0) ((a4.1 _ (by decide)).trans q1) hpq hq
            have hfr : fr [3433] [53, 56, 57, 58] [] F F' := fr_trans (fr_mono a4 (by simp) (by simp) (by simp)) (fr_mono e4 (by simp) (by simp) (by simp))
            refine ⟨F', ?_, ⟨m_names_fr g1 hfr (by decide), m_sf_fr g2 hfr (by decide), m_en_fr g3 hfr (by decide), e2, m_pr_fr g5 hfr (by decide), m_defd_fr g6 hfr (by decide), fun k hk => ?_, m_fl_fr g8 hfr (by decide), m_op_fr g9 hfr (by decide), m_bo_fr g10 hfr (by decide), m_nu_fr g11 hfr (by decide), ⟨fun h => ?_, fun h k hk => ?_⟩⟩, e3, fr_mono hfr (by simp) (by simp) (by simp)⟩
            · rw [b2_f, b2_t]
              simp (disch := omega) only [↓fx_bm, q2, u_l2, u_l3, ↓reduceIte, n_ltT, n_ltF, n_leT, n_leF, n_eqT, n_eqF, nI_1, u_lt, u_le, u_eq, u_add, u_ix, u_ixL, u_ixR, u_cl, u_nm1, u_nm1', u_m1l, u_m1n, u_l0, Option.bind_some, Option.map_some, not_true_eq_false, not_false_eq_true, true_and, and_true, Nat.add_sub_cancel, Bool.false_eq_true, u_nar2]
              rw [a1]
              exact e1
            · rw [e4.2.1 53 (by decide), a2 k hk]
              show _ = some (oi (if k < (rN R).length ∧ rFl R 4 k = true then some (rNu R 0) else rOw R k))
              by_cases ek : k < (rN R).length ∧ rFl R 4 k = true
              · rw [if_pos ek, if_pos ⟨Nat.zero_le _, ek⟩]
                rfl
              · rw [if_neg ek, if_neg (fun h => ek h.2)]
                exact g7 k hk
            · exact absurd (k4.symm.trans h) (by decide)
            · rw [hfr.1 3441 (by decide)]
              exact c4 k hk
end
