/-! the reference: the words of .SUFFIXES and of marks -/
theorem wl_len (o : List Nat) (W : List (Nat × Nat)) : (wl o W).length = W.length := by
  unfold wl
  rw [List.length_map, List.length_range]
theorem wl_get {o : List Nat} {W : List (Nat × Nat)} {k : Nat} (h : k < W.length) : (wl o W).getD k [] = wd o W k := by
  unfold wl
  rw [List.getD_eq_getElem?_getD, List.getElem?_map, List.getElem?_range h]
  rfl
theorem wl_drop {o : List Nat} {W : List (Nat × Nat)} {k : Nat} (h : k < W.length) : (wl o W).drop k = wd o W k :: (wl o W).drop (k + 1) := by
  rw [← wl_get h, List.drop_eq_getElem_cons (by rw [wl_len]; exact h)]
  congr 1
  rw [getD_get (by rw [wl_len]; exact h)]
theorem wl_drop0 {o : List Nat} {W : List (Nat × Nat)} {k : Nat} (h : W.length ≤ k) : (wl o W).drop k = [] := List.drop_eq_nil_of_le (by rw [wl_len]; exact h)
theorem pq_first {w : List Nat} (h8 : w.length ≤ 9) (h1 : 1 ≤ w.length) (hok : pq_ok w) : (lg_cmp (lN (pq w) >>> ((nI (7 * (w.length - 1))).toInt64 &&& 63)) (46 : Int64) = nI 0) = (w.getD 0 0 = 46) := by
  have h63 := pq_lt63 h8 hok
  rw [pq_shr h63 (by omega), Nat.pow_mul, show (2 : Nat) ^ 7 = 128 from rfl, pq_div w.length w rfl hok (w.length - 1) (by omega), show w.length - (w.length - 1) = 1 by omega, show (46 : Int64) = lN 46 from rfl]
  cases w with
  | nil => exact absurd h1 (by decide)
  | cons c t =>
    have hc := hok c (List.mem_cons_self ..)
    have e : pq ((c :: t).take 1) = c := by
      show 0 * 128 + c = c
      omega
    rw [e]
    exact propext (pq_cmp (by omega) (by omega))
section
variable {σ : rb_St} {b : Nat} {F : fx_F} {T : List Nat}
def sfk (S : List (List Nat)) : Prop := S.length ≤ 6 ∧ ∀ k, k < S.length → sp_name (S.getD k []) = true ∧ 2 ≤ (S.getD k []).length ∧ (S.getD k []).getD 0 0 = 46
theorem m_sufLoop (hb : rb_b σ ≤ b) {o : List Nat} (ho : o.length ≤ 120) (hto : tk o) {W : List (Nat × Nat)} (hwo : wok o W) : ∀ (m k : Nat) (F : fx_F) (S : List (List Nat)), k + m = W.length → fx_ln F → m_out F o → m_words F W → sfk S → m_sf F S → ∃ F', rb_it (fun z : (Int32 × rb_St) => f_M_suffixLine_b22 (some (fx_ad b 34)) (z.1) z.2) (nI k, fx_mk σ b F) = some (some (.int (nI (b2 (x_suf ((wl o W).drop k) S).isSome))), fx_mk σ b F') ∧ (∀ sf, x_suf ((wl o W).drop k) S = some sf → m_sf F' sf ∧ sfk sf) ∧ fx_ln F' ∧ fr [3418] [] [48] F F' := by
  have hw60 := hwo.1
  intro m
  induction m with
  | zero =>
    intro k F S hk hF hm hw hS hs
    rw [wl_drop0 (by omega)]
    refine ⟨F, ?_, fun sf h => ?_, hF, fr_refl _ _ _ _⟩
    · refine rb_it_r ?_
      show f_M_suffixLine_b22 _ _ _ = _
      unfold f_M_suffixLine_b22 x_suf
      simp (disch := omega) only [↓fx_bm, hw.1, ↓reduceIte, n_ltT, n_ltF, n_leT, n_leF, n_eqT, n_eqF, nI_1, u_lt, u_le, u_eq, u_add, u_ix, u_ixL, u_ixR, u_cl, u_nm1, u_nm1', u_m1l, u_m1n, u_l0, Option.bind_some, Option.map_some, not_true_eq_false, not_false_eq_true, true_and, and_true, Nat.add_sub_cancel, Bool.false_eq_true, u_nar2, Option.isSome_some, b2_t, u_l1]
    · unfold x_suf at h
      injection h with h
      subst h
      exact ⟨hs, hS⟩
  | succ m ih =>
    intro k F S hk hF hm hw hS hs
    have h6 := hS.1
    have hkW : k < W.length := by omega
    rw [wl_drop hkW]
    have htk := wd_tk hto W k
    have hok := tk_ok htk
    have hword := m_word (F := F) (σ := σ) (b := b) ho hto hm hwo hw hkW
    have hname := m_isName (fx_mk σ b F) hok
    generalize wd o W k = w at htk hok hword hname ⊢
    have hfail : ¬ (sp_name w = true ∧ 2 ≤ w.length ∧ w.getD 0 0 = 46) → f_M_suffixLine_b22 (some (fx_ad b 34)) (nI k) (fx_mk σ b F) = some (.inr (some (.int (nI 0)), fx_mk σ b F)) := by
      intro hn
      unfold f_M_suffixLine_b22
      by_cases hs : sp_name w = true
      · have h8 := sp_name_ok hs
        have hlen := m_length (fx_mk σ b F) (w := w) (by omega) hok
        rw [if_pos hs] at hname
        by_cases hl : w.length < 2
        · simp (disch := omega) only [↓fx_bm, hw.1, ↓cL_of hword, ↓cI_of hname, ↓cI_of (pk_of (w := w) (by omega) ▸ hlen), ↓reduceIte, n_ltT, n_ltF, n_leT, n_leF, n_eqT, n_eqF, nI_1, u_lt, u_le, u_eq, u_add, u_ix, u_ixL, u_ixR, u_cl, u_nm1, u_nm1', u_m1l, u_m1n, u_l0, Option.bind_some, Option.map_some, not_true_eq_false, not_false_eq_true, true_and, and_true, Nat.add_sub_cancel, Bool.false_eq_true, u_nar2, f_M_suffixLine_j51, f_M_suffixLine_j75, u_l2]
        · have h46 : ¬ w.getD 0 0 = 46 := fun h => hn ⟨hs, by omega, h⟩
          have hp := pq_first (w := w) (by omega) (by omega) hok
          rw [← pk_of (w := w) (by omega)] at hp
          simp (disch := omega) only [↓fx_bm, hw.1, ↓cL_of hword, ↓cI_of hname, ↓cI_of (pk_of (w := w) (by omega) ▸ hlen), ↓reduceIte, n_ltT, n_ltF, n_leT, n_leF, n_eqT, n_eqF, nI_1, u_lt, u_le, u_eq, u_add, u_ix, u_ixL, u_ixR, u_cl, u_nm1, u_nm1', u_m1l, u_m1n, u_l0, Option.bind_some, Option.map_some, not_true_eq_false, not_false_eq_true, true_and, and_true, Nat.add_sub_cancel, Bool.false_eq_true, u_nar2, f_M_suffixLine_j51, f_M_suffixLine_j75, u_l2, u_l1, u_l7, u_sub, u_mul, hp, h46]
      · rw [if_neg hs] at hname
        simp (disch := omega) only [↓fx_bm, hw.1, ↓cL_of hword, ↓cI_of hname, ↓reduceIte, n_ltT, n_ltF, n_leT, n_leF, n_eqT, n_eqF, nI_1, u_lt, u_le, u_eq, u_add, u_ix, u_ixL, u_ixR, u_cl, u_nm1, u_nm1', u_m1l, u_m1n, u_l0, Option.bind_some, Option.map_some, not_true_eq_false, not_false_eq_true, true_and, and_true, Nat.add_sub_cancel, Bool.false_eq_true, u_nar2, f_M_suffixLine_j51, f_M_suffixLine_j75, u_l2]
    by_cases hg : sp_name w = true ∧ 2 ≤ w.length ∧ w.getD 0 0 = 46
    · have h8 := sp_name_ok hg.1
      have hlen := m_length (fx_mk σ b F) (w := w) (by omega) hok
      rw [if_pos hg.1] at hname
      have hp := pq_first (w := w) (by omega) (by omega) hok
      rw [← pk_of (w := w) (by omega)] at hp
      have hsuf := m_isSuffix (σ := σ) (b := b) ⟨hS.1, fun k hk => (hS.2 k hk).1⟩ hs hok
      by_cases hin : (nf S w).isSome = true
      · rw [hin, b2_t] at hsuf
        obtain ⟨F', e1, e2, e3, e4⟩ := ih (k + 1) F S (by omega) hF hm hw hS hs
        have hx : x_suf (w :: (wl o W).drop (k + 1)) S = x_suf ((wl o W).drop (k + 1)) S := by
          rw [x_suf, if_pos hg, if_pos hin]
        rw [hx]
        refine ⟨F', ?_, e2, e3, e4⟩
        rw [← e1]
        refine rb_it_l ?_
        show f_M_suffixLine_b22 _ _ _ = _
        unfold f_M_suffixLine_b22
        simp (disch := omega) only [↓fx_bm, hw.1, ↓cL_of hword, ↓cI_of hname, ↓cI_of (pk_of (w := w) (by omega) ▸ hlen), ↓reduceIte, n_ltT, n_ltF, n_leT, n_leF, n_eqT, n_eqF, nI_1, u_lt, u_le, u_eq, u_add, u_ix, u_ixL, u_ixR, u_cl, u_nm1, u_nm1', u_m1l, u_m1n, u_l0, Option.bind_some, Option.map_some, not_true_eq_false, not_false_eq_true, true_and, and_true, Nat.add_sub_cancel, Bool.false_eq_true, u_nar2, f_M_suffixLine_j51, u_l2, u_l1, u_l7, u_sub, u_mul, hp, hg.2.2, ↓cI_of hsuf]
      · have hin' := Bool.eq_false_iff.mpr hin
        rw [hin', b2_f] at hsuf
        by_cases hfull : S.length = 6
        · have hx : x_suf (w :: (wl o W).drop (k + 1)) S = none := by
            rw [x_suf, if_pos hg, if_neg hin, if_pos hfull]
          rw [hx]
          refine ⟨F, ?_, fun sf h => (by cases h), hF, fr_refl _ _ _ _⟩
          refine rb_it_r ?_
          have hs1 := hs.1
          rw [hfull] at hs1
          show f_M_suffixLine_b22 _ _ _ = _
          unfold f_M_suffixLine_b22
          simp (disch := omega) only [↓fx_bm, hw.1, ↓cL_of hword, ↓cI_of hname, ↓cI_of (pk_of (w := w) (by omega) ▸ hlen), ↓reduceIte, n_ltT, n_ltF, n_leT, n_leF, n_eqT, n_eqF, nI_1, u_lt, u_le, u_eq, u_add, u_ix, u_ixL, u_ixR, u_cl, u_nm1, u_nm1', u_m1l, u_m1n, u_l0, Option.bind_some, Option.map_some, not_true_eq_false, not_false_eq_true, true_and, and_true, Nat.add_sub_cancel, Bool.false_eq_true, u_nar2, f_M_suffixLine_j51, u_l2, u_l1, u_l6, u_l7, u_sub, u_mul, hp, hg.2.2, ↓cI_of hsuf, hs1, Option.isSome_none, b2_f]
        · have h48 := hF.2.1 48
          simp only [fx_cL] at h48
          have hx : x_suf (w :: (wl o W).drop (k + 1)) S = x_suf ((wl o W).drop (k + 1)) (S ++ [w]) := by
            rw [x_suf, if_pos hg, if_neg hin, if_neg hfull]
          rw [hx]
          have hfr1 : fr [3418] [] [48] F (fx_I (fx_L F 48 ((F.2.2.1 48).set S.length (pk w))) 3418 (nI (S.length + 1))) := fr_I (fr_L (fr_refl _ _ _ _) (by decide)) (by decide)
          obtain ⟨F', e1, e2, e3, e4⟩ := ih (k + 1) (fx_I (fx_L F 48 ((F.2.2.1 48).set S.length (pk w))) 3418 (nI (S.length + 1))) (S ++ [w]) (by omega) (fx_lnI (fx_lnL hF (by rw [List.length_set]; exact hF.2.1 _))) (m_out_fr hm hfr1 (by decide)) (m_words_fr hw hfr1 (by decide)) ⟨by rw [List.length_append, List.length_cons, List.length_nil]; omega, fun j hj => by
            rw [List.length_append, List.length_cons, List.length_nil] at hj
            by_cases ej : j = S.length
            · subst ej
              rw [getD_app_r]
              exact hg
            · rw [getD_app_l (by omega)]
              exact hS.2 j (by omega)⟩ ⟨by simp only [fx_II, fx_AA, fx_LL, fx_I_1, fx_I_A, fx_I_L, fx_I_R, fx_I_Q, fx_A_1, fx_A_A, fx_A_L, fx_A_R, fx_A_Q, fx_L_1, fx_L_A, fx_L_L, fx_L_R, fx_L_Q, fx_R_1, fx_R_A, fx_R_L, fx_R_R, fx_R_Q, fx_Q_1, fx_Q_A, fx_Q_L, fx_Q_R, fx_Q_Q, Bool.false_eq_true, Option.bind_some, Option.map_some, rb_cI, rb_cL, rb_cR, rb_cV, reduceIte, ite_true, ite_false, not_true_eq_false, not_false_eq_true, true_and, and_true, Nat.reduceEqDiff, Nat.reduceAdd, Nat.reduceMul, Nat.add_sub_cancel, List.length_append, List.length_cons, List.length_nil], fun j hj => by
            rw [List.length_append, List.length_cons, List.length_nil] at hj
            simp only [fx_II, fx_AA, fx_LL, fx_I_1, fx_I_A, fx_I_L, fx_I_R, fx_I_Q, fx_A_1, fx_A_A, fx_A_L, fx_A_R, fx_A_Q, fx_L_1, fx_L_A, fx_L_L, fx_L_R, fx_L_Q, fx_R_1, fx_R_A, fx_R_L, fx_R_R, fx_R_Q, fx_Q_1, fx_Q_A, fx_Q_L, fx_Q_R, fx_Q_Q, Bool.false_eq_true, Option.bind_some, Option.map_some, rb_cI, rb_cL, rb_cR, rb_cV, reduceIte, ite_true, ite_false, not_true_eq_false, not_false_eq_true, true_and, and_true, Nat.reduceEqDiff, Nat.reduceAdd, Nat.reduceMul, Nat.add_sub_cancel]
            rw [set_get (by omega)]
            by_cases ej : j = S.length
            · subst ej
              rw [if_pos rfl, getD_app_r, pk_of (by omega)]
            · rw [if_neg ej, getD_app_l (by omega)]
              exact hs.2 j (by omega)⟩
          refine ⟨F', ?_, e2, e3, fr_trans hfr1 e4⟩
          rw [← e1]
          refine rb_it_l ?_
          show f_M_suffixLine_b22 _ _ _ = _
          unfold f_M_suffixLine_b22
          simp (disch := omega) only [↓fx_bm, ↓fx_vm hb, hw.1, ↓cL_of hword, ↓cI_of hname, ↓cI_of (pk_of (w := w) (by omega) ▸ hlen), ↓reduceIte, n_ltT, n_ltF, n_leT, n_leF, n_eqT, n_eqF, nI_1, u_lt, u_le, u_eq, u_add, u_ix, u_ixL, u_ixR, u_cl, u_nm1, u_nm1', u_m1l, u_m1n, u_l0, Option.bind_some, Option.map_some, not_true_eq_false, not_false_eq_true, true_and, and_true, Nat.add_sub_cancel, Bool.false_eq_true, u_nar2, f_M_suffixLine_j51, u_l2, u_l1, u_l6, u_l7, u_sub, u_mul, hp, hg.2.2, ↓cI_of hsuf, hs.1, fx_II, fx_AA, fx_LL, fx_I_1, fx_I_A, fx_I_L, fx_I_R, fx_I_Q, fx_A_1, fx_A_A, fx_A_L, fx_A_R, fx_A_Q, fx_L_1, fx_L_A, fx_L_L, fx_L_R, fx_L_Q, fx_R_1, fx_R_A, fx_R_L, fx_R_R, fx_R_Q, fx_Q_1, fx_Q_A, fx_Q_L, fx_Q_R, fx_Q_Q]
    · have hx : x_suf (w :: (wl o W).drop (k + 1)) S = none := by
        rw [x_suf, if_neg hg]
      rw [hx]
      refine ⟨F, ?_, fun sf h => (by cases h), hF, fr_refl _ _ _ _⟩
      exact rb_it_r (hfail hg)
/-- what a rule line may change -/
abbrev zRi : List Nat := [3402, 3418, 3422, 3423, 3426, 3429, 3433, 3437, 3438, 3439, 3440, 3441, 3442, 3444, 3447, 3448]
abbrev zRa : List Nat := [43, 44, 45, 49, 50, 51, 52, 53, 54, 55, 56, 57, 58, 61, 62, 63, 64, 65, 66, 67, 68, 69, 70, 71]
abbrev zRl : List Nat := [36, 48, 59, 60]
def m_res (T : List Nat) (F F' : fx_F) (x : Bool × RS) : Prop := (x.1 = true → m_rules F' T x.2) ∧ m_names F' (rN x.2) ∧ fx_ln F' ∧ fr zRi zRa zRl F F'
theorem m_suffixLine (hb : rb_b σ ≤ b) (hF : fx_ln F) {R : RS} (hR : rok R) (hm : m_rules F T R) (hk1 : rNu R 1 = 1) {o : List Nat} (ho : o.length ≤ 120) (hto : tk o) {W : List (Nat × Nat)} (hwo : wok o W) (h1 : 1 ≤ W.length) (hmo : m_out F o) (hmw : m_words F W) : ∃ F', f_M_suffixLine (some (fx_ad b 34)) (fx_mk σ b F) = some (some (.int (nI (b2 (x_sufL R (wl o W)).1))), fx_mk σ b F') ∧ m_res T F F' (x_sufL R (wl o W)) := by
  have hw60 := hwo.1
  obtain ⟨g1, g2, g3, g4, g5, g6, g7, g8, g9, g10, g11, g12⟩ := hm
  obtain ⟨r1, r2, r3⟩ := hR
  have hr6 := r2.1
  have hS : sfk (if W.length = 1 then [] else rSf R) := by
    split
    · exact ⟨Nat.zero_le _, fun k hk => absurd hk (Nat.not_lt_zero _)⟩
    · exact r2
  have hs : m_sf (fx_I F 3418 (nI (if W.length = 1 then [] else rSf R).length)) (if W.length = 1 then [] else rSf R) := by
    refine ⟨by rw [fx_I_1, if_pos rfl], ?_⟩
    split
    · exact fun k hk => absurd hk (Nat.not_lt_zero _)
    · exact g2.2
  have hfr1 : fr [3418] [] [48] F (fx_I F 3418 (nI (if W.length = 1 then [] else rSf R).length)) := fr_I (fr_refl _ _ _ _) (by decide)
  obtain ⟨F', e1, e2, e3, e4⟩ := m_sufLoop (σ := σ) (b := b) hb ho hto hwo (W.length - 1) 1 _ _ (by omega) (fx_lnI (z := 3418) (x := nI (if W.length = 1 then [] else rSf R).length) hF) (m_out_fr hmo hfr1 (by decide)) (m_words_fr hmw hfr1 (by decide)) hS hs
  have hfr : fr [3418] [] [48] F F' := fr_trans hfr1 e4
  have hgo : f_M_suffixLine (some (fx_ad b 34)) (fx_mk σ b F) = rb_it (fun z : (Int32 × rb_St) => f_M_suffixLine_b22 (some (fx_ad b 34)) (z.1) z.2) (nI 1, fx_mk σ b (fx_I F 3418 (nI (if W.length = 1 then [] else rSf R).length))) := by
    unfold f_M_suffixLine
    by_cases e : W.length = 1
    · have hm1 := hmw.1
      rw [e] at hm1
      rw [if_pos e]
      simp (disch := omega) only [↓fx_bm, ↓fx_vm hb, hm1, u_l1, List.length_nil, ↓reduceIte, n_ltT, n_ltF, n_leT, n_leF, n_eqT, n_eqF, nI_1, u_lt, u_le, u_eq, u_add, u_ix, u_ixL, u_ixR, u_cl, u_nm1, u_nm1', u_m1l, u_m1n, u_l0, Option.bind_some, Option.map_some, not_true_eq_false, not_false_eq_true, true_and, and_true, Nat.add_sub_cancel, Bool.false_eq_true, u_nar2]
    · rw [if_neg e]
      simp (disch := omega) only [↓fx_bm, ↓fx_vm hb, hmw.1, g2.1, u_l1, ↓reduceIte, n_ltT, n_ltF, n_leT, n_leF, n_eqT, n_eqF, nI_1, u_lt, u_le, u_eq, u_add, u_ix, u_ixL, u_ixR, u_cl, u_nm1, u_nm1', u_m1l, u_m1n, u_l0, Option.bind_some, Option.map_some, not_true_eq_false, not_false_eq_true, true_and, and_true, Nat.add_sub_cancel, Bool.false_eq_true, u_nar2]
  have hN : m_names F' (rN R) := m_names_fr g1 hfr (by decide)
  have hfrR : fr zRi zRa zRl F F' := fr_mono hfr (by decide) (by decide) (by decide)
  refine ⟨F', ?_, ?_⟩
  · rw [hgo, e1]
    unfold x_sufL
    rw [wl_len]
    cases x_suf ((wl o W).drop 1) (if W.length = 1 then [] else rSf R) <;> rfl
  · unfold x_sufL
    rw [wl_len]
    cases hx : x_suf ((wl o W).drop 1) (if W.length = 1 then [] else rSf R) with
    | none => exact ⟨fun h => (by cases h), hN, e3, hfrR⟩
    | some sf => exact ⟨fun _ => ⟨hN, (e2 sf hx).1, m_en_fr g3 hfr (by decide), m_cm_fr g4 hfr (by decide), m_pr_fr g5 hfr (by decide), m_defd_fr g6 hfr (by decide), m_ow_fr g7 hfr (by decide), m_fl_fr g8 hfr (by decide), m_op_fr g9 hfr (by decide), m_bo_fr g10 hfr (by decide), m_nu_fr g11 hfr (by decide), ⟨fun h => absurd (hk1.symm.trans h) (by decide), fun h => absurd (hk1.symm.trans h) (by decide)⟩⟩, hN, e3, hfrR⟩
/-- packed words are the same when the words are -/
theorem pk2 {a w : List Nat} (ha : a.length ≤ 9) (h1 : pq_ok a) (h2 : pq_ok w) : (lg_cmp (pk w) (pk a) = 0) = (w = a) := by
  have ha' := pq_lt63 ha h1
  rw [pk_of ha]
  by_cases hw : w.length ≤ 9
  · rw [pk_of hw]
    exact propext ((pq_cmp (pq_lt63 hw h2) ha').trans (pq_eq h2 h1))
  · rw [show pk w = -1 from if_neg hw]
    apply propext
    constructor
    · intro h
      exfalso
      have e : lg_cmp (-1) (lN (pq a)) = -1 := by
        unfold lg_cmp
        have : (lN (pq a)).toInt = (pq a : Int) := lg_ofNat_toInt ha'
        have h3 : (-1 : Int64).toInt = -1 := rfl
        have hlt : (-1 : Int64) < lN (pq a) := by
          rw [Int64.lt_iff_toInt_lt, this, h3]
          omega
        have hng : ¬ lN (pq a) < (-1 : Int64) := by
          rw [Int64.lt_iff_toInt_lt, this, h3]
          omega
        have hne : ¬ (-1 : Int64) = lN (pq a) := fun hq => by
          rw [← hq] at hlt
          exact absurd hlt (by decide)
        rw [if_neg hng, if_neg hne]
      rw [e] at h
      exact absurd h (by decide)
    · intro h
      subst h
      omega
theorem k_SUF : (3361750429958808275 : Int64) = pk q_SUF := (rfl)
theorem k_PHO : (1602175100761 : Int64) = pk q_PHO := (rfl)
theorem k_IGN : (204837624211781 : Int64) = pk q_IGN := (rfl)
theorem k_SIL : (205181754107732 : Int64) = pk q_SIL := (rfl)
theorem k_DEF : (26197154770282068 : Int64) = pk q_DEF := (rfl)
theorem ok_SUF : pq_ok q_SUF := by unfold pq_ok q_SUF; decide
theorem ok_PHO : pq_ok q_PHO := by unfold pq_ok q_PHO; decide
theorem ok_IGN : pq_ok q_IGN := by unfold pq_ok q_IGN; decide
theorem ok_SIL : pq_ok q_SIL := by unfold pq_ok q_SIL; decide
theorem ok_DEF : pq_ok q_DEF := by unfold pq_ok q_DEF; decide
theorem c_SUF {w : List Nat} (h : pq_ok w) : (lg_cmp (pk w) (3361750429958808275 : Int64) = 0) = (w = q_SUF) := by rw [k_SUF]; exact pk2 (by decide) ok_SUF h
theorem c_PHO {w : List Nat} (h : pq_ok w) : (lg_cmp (pk w) (1602175100761 : Int64) = 0) = (w = q_PHO) := by rw [k_PHO]; exact pk2 (by decide) ok_PHO h
theorem c_IGN {w : List Nat} (h : pq_ok w) : (lg_cmp (pk w) (204837624211781 : Int64) = 0) = (w = q_IGN) := by rw [k_IGN]; exact pk2 (by decide) ok_IGN h
theorem c_SIL {w : List Nat} (h : pq_ok w) : (lg_cmp (pk w) (205181754107732 : Int64) = 0) = (w = q_SIL) := by rw [k_SIL]; exact pk2 (by decide) ok_SIL h
theorem c_DEF {w : List Nat} (h : pq_ok w) : (lg_cmp (pk w) (26197154770282068 : Int64) = 0) = (w = q_DEF) := by rw [k_DEF]; exact pk2 (by decide) ok_DEF h
theorem m_mark3 (hb : rb_b σ ≤ b) (hF : fx_ln F) {h : List Nat} (hh : pq_ok h) {k n : Nat} (hn : n < 32) {x y : Bool} (hy : (F.2.1 51)[n]? = some (nI (b2 y))) : f_M_markLine_j151 (some (fx_ad b 34)) (pk h) (nI k) (nI n) (nI (b2 x)) (nI n) (some (fx_ad b 50)) (fx_mk σ b F) = some (.inl (nI (k + 1), fx_mk σ b (fx_A (fx_A F 50 ((F.2.1 50).set n (nI (b2 x)))) 51 ((F.2.1 51).set n (nI (b2 (y || decide (h = q_SIL)))))))) := by
  have h50 := hF.1 50
  have h51 := hF.1 51
  simp only [fx_cI] at h50 h51
  unfold f_M_markLine_j151
  have hx2 := b2_lt x
  cases y
  · by_cases e : h = q_SIL
    · simp (disch := omega) only [↓fx_bm, ↓fx_vm hb, ↓reduceIte, n_ltT, n_ltF, n_leT, n_leF, n_eqT, n_eqF, nI_1, u_lt, u_le, u_eq, u_add, u_ix, u_ixL, u_ixR, u_cl, u_nm1, u_nm1', u_m1l, u_m1n, u_l0, Option.bind_some, Option.map_some, not_true_eq_false, not_false_eq_true, true_and, and_true, Nat.add_sub_cancel, Bool.false_eq_true, u_nar2, fx_II, fx_AA, fx_LL, fx_I_1, fx_I_A, fx_I_L, fx_I_R, fx_I_Q, fx_A_1, fx_A_A, fx_A_L, fx_A_R, fx_A_Q, fx_L_1, fx_L_A, fx_L_L, fx_L_R, fx_L_Q, fx_R_1, fx_R_A, fx_R_L, fx_R_R, fx_R_Q, fx_Q_1, fx_Q_A, fx_Q_L, fx_Q_R, fx_Q_Q, Nat.reduceEqDiff, u_nar4, u_l1, b2_f, b2_t, ↓c_SIL hh, e, decide_true, Bool.false_or, hy, ↓bx_of rfl (show n < 2147483648 by omega) hy]
    · simp (disch := omega) only [↓fx_bm, ↓fx_vm hb, ↓reduceIte, n_ltT, n_ltF, n_leT, n_leF, n_eqT, n_eqF, nI_1, u_lt, u_le, u_eq, u_add, u_ix, u_ixL, u_ixR, u_cl, u_nm1, u_nm1', u_m1l, u_m1n, u_l0, Option.bind_some, Option.map_some, not_true_eq_false, not_false_eq_true, true_and, and_true, Nat.add_sub_cancel, Bool.false_eq_true, u_nar2, fx_II, fx_AA, fx_LL, fx_I_1, fx_I_A, fx_I_L, fx_I_R, fx_I_Q, fx_A_1, fx_A_A, fx_A_L, fx_A_R, fx_A_Q, fx_L_1, fx_L_A, fx_L_L, fx_L_R, fx_L_Q, fx_R_1, fx_R_A, fx_R_L, fx_R_R, fx_R_Q, fx_Q_1, fx_Q_A, fx_Q_L, fx_Q_R, fx_Q_Q, Nat.reduceEqDiff, u_nar4, u_l1, b2_f, b2_t, ↓c_SIL hh, e, decide_false, Bool.false_or, hy, ↓bx_of rfl (show n < 2147483648 by omega) hy]
  · simp (disch := omega) only [↓fx_bm, ↓fx_vm hb, ↓reduceIte, n_ltT, n_ltF, n_leT, n_leF, n_eqT, n_eqF, nI_1, u_lt, u_le, u_eq, u_add, u_ix, u_ixL, u_ixR, u_cl, u_nm1, u_nm1', u_m1l, u_m1n, u_l0, Option.bind_some, Option.map_some, not_true_eq_false, not_false_eq_true, true_and, and_true, Nat.add_sub_cancel, Bool.false_eq_true, u_nar2, fx_II, fx_AA, fx_LL, fx_I_1, fx_I_A, fx_I_L, fx_I_R, fx_I_Q, fx_A_1, fx_A_A, fx_A_L, fx_A_R, fx_A_Q, fx_L_1, fx_L_A, fx_L_L, fx_L_R, fx_L_Q, fx_R_1, fx_R_A, fx_R_L, fx_R_R, fx_R_Q, fx_Q_1, fx_Q_A, fx_Q_L, fx_Q_R, fx_Q_Q, Nat.reduceEqDiff, u_nar4, u_l1, b2_f, b2_t, Bool.true_or, hy, ↓bx_of rfl (show n < 2147483648 by omega) hy]
theorem m_mark2 (hb : rb_b σ ≤ b) (hF : fx_ln F) {h : List Nat} (hh : pq_ok h) {k n : Nat} (hn : n < 32) {x y z : Bool} (hy : (F.2.1 50)[n]? = some (nI (b2 y))) (hz : (F.2.1 51)[n]? = some (nI (b2 z))) : f_M_markLine_j121 (some (fx_ad b 34)) (pk h) (nI k) (nI n) (nI (b2 x)) (nI n) (some (fx_ad b 49)) (fx_mk σ b F) = some (.inl (nI (k + 1), fx_mk σ b (fx_A (fx_A (fx_A F 49 ((F.2.1 49).set n (nI (b2 x)))) 50 ((F.2.1 50).set n (nI (b2 (y || decide (h = q_IGN)))))) 51 ((F.2.1 51).set n (nI (b2 (z || decide (h = q_SIL)))))))) := by
  have h49 := hF.1 49
  simp only [fx_cI] at h49
  have hln : fx_ln (fx_A F 49 ((F.2.1 49).set n (nI (b2 x)))) := fx_lnA hF (by rw [List.length_set]; exact hF.1 _)
  have key := fun w : Bool => m_mark3 (σ := σ) (b := b) (F := fx_A F 49 ((F.2.1 49).set n (nI (b2 x)))) hb hln hh (k := k) hn (x := w) (y := z) hz
  unfold f_M_markLine_j121
  have hx2 := b2_lt x
  cases y
  · by_cases e : h = q_IGN
    · have k1 := key true
      rw [b2_t] at k1
      simp (disch := omega) only [↓fx_bm, ↓fx_vm hb, ↓reduceIte, n_ltT, n_ltF, n_leT, n_leF, n_eqT, n_eqF, nI_1, u_lt, u_le, u_eq, u_add, u_ix, u_ixL, u_ixR, u_cl, u_nm1, u_nm1', u_m1l, u_m1n, u_l0, Option.bind_some, Option.map_some, not_true_eq_false, not_false_eq_true, true_and, and_true, Nat.add_sub_cancel, Bool.false_eq_true, u_nar2, fx_II, fx_AA, fx_LL, fx_I_1, fx_I_A, fx_I_L, fx_I_R, fx_I_Q, fx_A_1, fx_A_A, fx_A_L, fx_A_R, fx_A_Q, fx_L_1, fx_L_A, fx_L_L, fx_L_R, fx_L_Q, fx_R_1, fx_R_A, fx_R_L, fx_R_R, fx_R_Q, fx_Q_1, fx_Q_A, fx_Q_L, fx_Q_R, fx_Q_Q, Nat.reduceEqDiff, u_nar4, u_l1, b2_f, b2_t, ↓c_IGN hh, e, decide_true, Bool.false_or, hy, ↓bx_of rfl (show n < 2147483648 by omega) hy, f_M_markLine_j146] at k1 ⊢
      exact k1
    · have k1 := key false
      rw [b2_f] at k1
      simp (disch := omega) only [↓fx_bm, ↓fx_vm hb, ↓reduceIte, n_ltT, n_ltF, n_leT, n_leF, n_eqT, n_eqF, nI_1, u_lt, u_le, u_eq, u_add, u_ix, u_ixL, u_ixR, u_cl, u_nm1, u_nm1', u_m1l, u_m1n, u_l0, Option.bind_some, Option.map_some, not_true_eq_false, not_false_eq_true, true_and, and_true, Nat.add_sub_cancel, Bool.false_eq_true, u_nar2, fx_II, fx_AA, fx_LL, fx_I_1, fx_I_A, fx_I_L, fx_I_R, fx_I_Q, fx_A_1, fx_A_A, fx_A_L, fx_A_R, fx_A_Q, fx_L_1, fx_L_A, fx_L_L, fx_L_R, fx_L_Q, fx_R_1, fx_R_A, fx_R_L, fx_R_R, fx_R_Q, fx_Q_1, fx_Q_A, fx_Q_L, fx_Q_R, fx_Q_Q, Nat.reduceEqDiff, u_nar4, u_l1, b2_f, b2_t, ↓c_IGN hh, e, decide_false, Bool.false_or, hy, ↓bx_of rfl (show n < 2147483648 by omega) hy, f_M_markLine_j146] at k1 ⊢
      exact k1
  · have k1 := key true
    rw [b2_t] at k1
    simp (disch := omega) only [↓fx_bm, ↓fx_vm hb, ↓reduceIte, n_ltT, n_ltF, n_leT, n_leF, n_eqT, n_eqF, nI_1, u_lt, u_le, u_eq, u_add, u_ix, u_ixL, u_ixR, u_cl, u_nm1, u_nm1', u_m1l, u_m1n, u_l0, Option.bind_some, Option.map_some, not_true_eq_false, not_false_eq_true, true_and, and_true, Nat.add_sub_cancel, Bool.false_eq_true, u_nar2, fx_II, fx_AA, fx_LL, fx_I_1, fx_I_A, fx_I_L, fx_I_R, fx_I_Q, fx_A_1, fx_A_A, fx_A_L, fx_A_R, fx_A_Q, fx_L_1, fx_L_A, fx_L_L, fx_L_R, fx_L_Q, fx_R_1, fx_R_A, fx_R_L, fx_R_R, fx_R_Q, fx_Q_1, fx_Q_A, fx_Q_L, fx_Q_R, fx_Q_Q, Nat.reduceEqDiff, u_nar4, u_l1, b2_f, b2_t, Bool.true_or, hy, ↓bx_of rfl (show n < 2147483648 by omega) hy, f_M_markLine_j146] at k1 ⊢
    exact k1
theorem m_mark1 (hb : rb_b σ ≤ b) (hF : fx_ln F) {h : List Nat} (hh : pq_ok h) {k n : Nat} (hn : n < 32) {x y z : Bool} (hx : (F.2.1 49)[n]? = some (nI (b2 x))) (hy : (F.2.1 50)[n]? = some (nI (b2 y))) (hz : (F.2.1 51)[n]? = some (nI (b2 z))) : (rb_gR (fx_mk σ b F) (some (fx_ad b 34)) 13 19).bind (fun r_12 => (rb_gR (fx_mk σ b F) (some (fx_ad b 34)) 13 19).bind fun r_13 => (rb_aI (fx_mk σ b F) r_13 104 (nI n)).bind fun x_14 => if x_14 = 0 then (if (lg_cmp (pk h) (1602175100761 : Int64)) = 0 then (f_M_markLine_j116 (some (fx_ad b 34)) (pk h) (nI k) (nI n) (nI n) (r_12) (fx_mk σ b F)) else (f_M_markLine_j121 (some (fx_ad b 34)) (pk h) (nI k) (nI n) ((0 : Int32)) (nI n) (r_12) (fx_mk σ b F))) else (f_M_markLine_j116 (some (fx_ad b 34)) (pk h) (nI k) (nI n) (nI n) (r_12) (fx_mk σ b F))) = some (.inl (nI (k + 1), fx_mk σ b (fx_A (fx_A (fx_A F 49 ((F.2.1 49).set n (nI (b2 (x || decide (h = q_PHO)))))) 50 ((F.2.1 50).set n (nI (b2 (y || decide (h = q_IGN)))))) 51 ((F.2.1 51).set n (nI (b2 (z || decide (h = q_SIL)))))))) := by
  have key := fun w : Bool => m_mark2 (σ := σ) (b := b) hb hF hh (k := k) hn (x := w) hy hz
  cases x
  · by_cases e : h = q_PHO
    · have k1 := key true
      rw [decide_eq_true e, Bool.or_true, ← k1]
      simp (disch := omega) only [↓fx_bm, ↓reduceIte, n_ltT, n_ltF, n_leT, n_leF, n_eqT, n_eqF, nI_1, u_lt, u_le, u_eq, u_add, u_ix, u_ixL, u_ixR, u_cl, u_nm1, u_nm1', u_m1l, u_m1n, u_l0, Option.bind_some, Option.map_some, not_true_eq_false, not_false_eq_true, true_and, and_true, Nat.add_sub_cancel, Bool.false_eq_true, u_nar2, u_l1, b2_f, b2_t, ↓c_PHO hh, e, ↓bx_of rfl (show n < 2147483648 by omega) hx, f_M_markLine_j116]
    · have k1 := key false
      rw [decide_eq_false e, Bool.or_false, ← k1]
      simp (disch := omega) only [↓fx_bm, ↓reduceIte, n_ltT, n_ltF, n_leT, n_leF, n_eqT, n_eqF, nI_1, u_lt, u_le, u_eq, u_add, u_ix, u_ixL, u_ixR, u_cl, u_nm1, u_nm1', u_m1l, u_m1n, u_l0, Option.bind_some, Option.map_some, not_true_eq_false, not_false_eq_true, true_and, and_true, Nat.add_sub_cancel, Bool.false_eq_true, u_nar2, u_l1, b2_f, b2_t, ↓c_PHO hh, e, ↓bx_of rfl (show n < 2147483648 by omega) hx, f_M_markLine_j116]
  · have k1 := key true
    rw [Bool.true_or, ← k1]
    simp (disch := omega) only [↓fx_bm, ↓reduceIte, n_ltT, n_ltF, n_leT, n_leF, n_eqT, n_eqF, nI_1, u_lt, u_le, u_eq, u_add, u_ix, u_ixL, u_ixR, u_cl, u_nm1, u_nm1', u_m1l, u_m1n, u_l0, Option.bind_some, Option.map_some, not_true_eq_false, not_false_eq_true, true_and, and_true, Nat.add_sub_cancel, Bool.false_eq_true, u_nar2, u_l1, b2_f, b2_t, ↓bx_of rfl (show n < 2147483648 by omega) hx, f_M_markLine_j116]
end
