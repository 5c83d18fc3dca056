/-! the reference: a rule line of names, its second half -/
section
variable {σ : rb_St} {b : Nat} {F : fx_F} {T : List Nat}
theorem m_plain3 (hb : rb_b σ ≤ b) {o : List Nat} (ho : o.length ≤ 120) (hto : tk o) {W : List (Nat × Nat)} (hwo : wok o W) {n k t : Nat} (ht : t < 32) {N : List (List Nat)} (hN : nok N) {ks : List Nat} (hks : ks.length = W.length) (hnf : ∀ i, i < W.length → nf N (wd o W i) = some (ks.getD i 0)) : ∀ (m p : Nat) (F : fx_F) (l : List (Nat × Nat)), p + m = W.length → fx_ln F → m_out F o → m_words F W → m_names F N → m_pr F l → l.length + m ≤ 80 → ∃ F', rb_it (fun z : (Int32 × rb_St) => f_M_plainLine_b150 (some (fx_ad b 34)) (nI n) (nI k) (nI t) (z.1) z.2) (nI p, fx_mk σ b F) = some (.inl (nI (k + 1), fx_mk σ b F')) ∧ m_pr F' (l ++ (ks.drop p).map (fun q => (t, q))) ∧ fx_ln F' ∧ fr [3429] [54, 55] [] F F' := by
  have hw60 := hwo.1
  intro m
  induction m with
  | zero =>
    intro p F l hp hF hmo hw hm hpr hl
    refine ⟨F, ?_, ?_, hF, fr_refl _ _ _ _⟩
    · refine rb_it_r ?_
      show f_M_plainLine_b150 _ _ _ _ _ _ = _
      unfold f_M_plainLine_b150
      simp (disch := omega) only [↓fx_bm, hw.1, ↓reduceIte, n_ltT, n_ltF, n_leT, n_leF, n_eqT, n_eqF, nI_1, u_lt, u_le, u_eq, u_add, u_ix, u_ixL, u_ixR, u_cl, u_nm1, u_nm1', u_m1l, u_m1n, u_l0, Option.bind_some, Option.map_some, not_true_eq_false, not_false_eq_true, true_and, and_true, Nat.add_sub_cancel, Bool.false_eq_true, u_nar2]
    · rw [List.drop_eq_nil_of_le (by omega), List.map_nil, List.append_nil]
      exact hpr
  | succ m ih =>
    intro p F l hp hF hmo hw hm hpr hl
    have hpW : p < W.length := by omega
    have h54 := hF.1 54
    have h55 := hF.1 55
    simp only [fx_cI] at h54 h55
    have hxn := hnf p hpW
    have hx32 : ks.getD p 0 < 32 := Nat.lt_of_lt_of_le (nf_lt hxn) hN.1
    generalize hF1 : fx_A F 54 ((F.2.1 54).set l.length (nI t)) = F1
    have hfr1 : fr [3429] [54, 55] [] F F1 := by
      subst hF1
      exact fr_A (fr_refl _ _ _ _) (by decide)
    have hword := m_word (F := F1) (σ := σ) (b := b) ho hto (m_out_fr hmo hfr1 (by decide)) hwo (m_words_fr hw hfr1 (by decide)) hpW
    have hfind := m_find (σ := σ) (b := b) hN (m_names_fr hm hfr1 (by decide)) (tk_ok (wd_tk hto W p))
    rw [hxn, oi_some] at hfind
    generalize hF2 : fx_I (fx_A F1 55 ((F1.2.1 55).set l.length (nI (ks.getD p 0)))) 3429 (nI (l.length + 1)) = F2
    have hfr2 : fr [3429] [54, 55] [] F F2 := by
      refine fr_trans hfr1 ?_
      subst hF2
      exact fr_I (fr_A (fr_refl _ _ _ _) (by decide)) (by decide)
    have hln2 : fx_ln F2 := by
      subst hF2
      subst hF1
      exact fx_lnI (fx_lnA (fx_lnA hF (by rw [List.length_set]; exact hF.1 _)) (by rw [List.length_set]; exact hF.1 _))
    have hpr2 : m_pr F2 (l ++ [(t, ks.getD p 0)]) := by
      subst hF2
      subst hF1
      refine ⟨?_, fun i hi => ?_⟩
      · simp only [fx_II, fx_AA, fx_LL, fx_I_1, fx_I_A, fx_I_L, fx_I_R, fx_I_Q, fx_A_1, fx_A_A, fx_A_L, fx_A_R, fx_A_Q, fx_L_1, fx_L_A, fx_L_L, fx_L_R, fx_L_Q, fx_R_1, fx_R_A, fx_R_L, fx_R_R, fx_R_Q, fx_Q_1, fx_Q_A, fx_Q_L, fx_Q_R, fx_Q_Q, Bool.false_eq_true, Option.bind_some, Option.map_some, rb_cI, rb_cL, rb_cR, rb_cV, reduceIte, ite_true, ite_false, not_true_eq_false, not_false_eq_true, true_and, and_true, Nat.reduceEqDiff, Nat.reduceAdd, Nat.reduceMul, Nat.add_sub_cancel, List.length_append, List.length_cons, List.length_nil]
      · rw [List.length_append, List.length_cons, List.length_nil] at hi
        simp only [fx_II, fx_AA, fx_LL, fx_I_1, fx_I_A, fx_I_L, fx_I_R, fx_I_Q, fx_A_1, fx_A_A, fx_A_L, fx_A_R, fx_A_Q, fx_L_1, fx_L_A, fx_L_L, fx_L_R, fx_L_Q, fx_R_1, fx_R_A, fx_R_L, fx_R_R, fx_R_Q, fx_Q_1, fx_Q_A, fx_Q_L, fx_Q_R, fx_Q_Q, Bool.false_eq_true, Option.bind_some, Option.map_some, rb_cI, rb_cL, rb_cR, rb_cV, reduceIte, ite_true, ite_false, not_true_eq_false, not_false_eq_true, true_and, and_true, Nat.reduceEqDiff, Nat.reduceAdd, Nat.reduceMul, Nat.add_sub_cancel]
        rw [set_get (by omega), set_get (by omega)]
        by_cases ei : i = l.length
        · subst ei
          rw [if_pos rfl, if_pos rfl, getD_app_r]
          exact ⟨rfl, rfl⟩
        · rw [if_neg ei, if_neg ei, getD_app_l (by omega)]
          exact hpr.2 i (by omega)
    obtain ⟨F', e1, e2, e3, e4⟩ := ih (p + 1) F2 (l ++ [(t, ks.getD p 0)]) (by omega) hln2 (m_out_fr hmo hfr2 (by decide)) (m_words_fr hw hfr2 (by decide)) (m_names_fr hm hfr2 (by decide)) hpr2 (by rw [List.length_append, List.length_cons, List.length_nil]; omega)
    refine ⟨F', ?_, ?_, e3, fr_trans hfr2 e4⟩
    · rw [← e1]
      refine rb_it_l ?_
      subst hF2
      subst hF1
      show f_M_plainLine_b150 _ _ _ _ _ _ = _
      unfold f_M_plainLine_b150
      simp (disch := omega) only [↓fx_bm, ↓fx_vm hb, hw.1, hpr.1, ↓cL_of hword, ↓cI_of hfind, ↓reduceIte, n_ltT, n_ltF, n_leT, n_leF, n_eqT, n_eqF, nI_1, u_lt, u_le, u_eq, u_add, u_ix, u_ixL, u_ixR, u_cl, u_nm1, u_nm1', u_m1l, u_m1n, u_l0, Option.bind_some, Option.map_some, not_true_eq_false, not_false_eq_true, true_and, and_true, Nat.add_sub_cancel, Bool.false_eq_true, u_nar2, fx_II, fx_AA, fx_LL, fx_I_1, fx_I_A, fx_I_L, fx_I_R, fx_I_Q, fx_A_1, fx_A_A, fx_A_L, fx_A_R, fx_A_Q, fx_L_1, fx_L_A, fx_L_L, fx_L_R, fx_L_Q, fx_R_1, fx_R_A, fx_R_L, fx_R_R, fx_R_Q, fx_Q_1, fx_Q_A, fx_Q_L, fx_Q_R, fx_Q_Q, Nat.reduceEqDiff, u_l1]
    · rw [List.append_assoc] at e2
      rw [List.drop_eq_getElem_cons (by omega), List.map_cons]
      rw [getD_get (by omega)] at e2
      exact e2
theorem m_plain2 (hb : rb_b σ ≤ b) {o : List Nat} (ho : o.length ≤ 120) (hto : tk o) {W : List (Nat × Nat)} (hwo : wok o W) {n : Nat} (hn : n ≤ W.length) {N : List (List Nat)} (hN : nok N) {ks : List Nat} (hks : ks.length = W.length) (hnf : ∀ i, i < W.length → nf N (wd o W i) = some (ks.getD i 0)) : ∀ (m k : Nat) (F : fx_F) (l : List (Nat × Nat)) (fl : Nat → Bool), k + m = n → fx_ln F → m_out F o → m_words F W → m_names F N → m_pr F l → l.length + m * (W.length - n) ≤ 80 → (∀ j, j < 32 → (F.2.1 52)[j]? = some (nI (b2 (fl j)))) → ∃ F', rb_it (fun z : (Int32 × rb_St) => f_M_plainLine_b123 (some (fx_ad b 34)) (nI n) (z.1) z.2) (nI k, fx_mk σ b F) = some (some (.int (nI 1)), fx_mk σ b F') ∧ m_pr F' (l ++ ((ks.take n).drop k).flatMap (fun t => (ks.drop n).map (fun p => (t, p)))) ∧ (∀ j, j < 32 → (F'.2.1 52)[j]? = some (nI (b2 (fl j || decide (j ∈ (ks.take n).drop k))))) ∧ fx_ln F' ∧ fr [3429] [52, 54, 55] [] F F' := by
  have hw60 := hwo.1
  intro m
  induction m with
  | zero =>
    intro k F l fl hk hF hmo hw hm hpr hl hfl
    have hz : (ks.take n).drop k = [] := List.drop_eq_nil_of_le (by rw [List.length_take]; omega)
    rw [hz]
    refine ⟨F, ?_, ?_, fun j hj => ?_, hF, fr_refl _ _ _ _⟩
    · refine rb_it_r ?_
      show f_M_plainLine_b123 _ _ _ _ = _
      unfold f_M_plainLine_b123
      simp (disch := omega) only [↓reduceIte, n_ltT, n_ltF, n_leT, n_leF, n_eqT, n_eqF, nI_1, u_lt, u_le, u_eq, u_add, u_ix, u_ixL, u_ixR, u_cl, u_nm1, u_nm1', u_m1l, u_m1n, u_l0, Option.bind_some, Option.map_some, not_true_eq_false, not_false_eq_true, true_and, and_true, Nat.add_sub_cancel, Bool.false_eq_true, u_nar2, u_l1]
    · rw [List.flatMap_nil, List.append_nil]
      exact hpr
    · rw [hfl j hj]
      simp
  | succ m ih =>
    intro k F l fl hk hF hmo hw hm hpr hl hfl
    have hkW : k < W.length := by omega
    have h52 := hF.1 52
    simp only [fx_cI] at h52
    have hxn := hnf k hkW
    have hx32 : ks.getD k 0 < 32 := Nat.lt_of_lt_of_le (nf_lt hxn) hN.1
    have hword := m_word (F := F) (σ := σ) (b := b) ho hto hmo hwo hw hkW
    have hfind := m_find (σ := σ) (b := b) hN hm (tk_ok (wd_tk hto W k))
    rw [hxn, oi_some] at hfind
    generalize hF1 : fx_A F 52 ((F.2.1 52).set (ks.getD k 0) (nI 1)) = F1
    have hfr1 : fr [3429] [52, 54, 55] [] F F1 := by
      subst hF1
      exact fr_A (fr_refl _ _ _ _) (by decide)
    have hln1 : fx_ln F1 := by
      subst hF1
      exact fx_lnA hF (by rw [List.length_set]; exact hF.1 _)
    have hpr1 : m_pr F1 l := by
      subst hF1
      exact hpr
    rw [Nat.succ_mul] at hl
    obtain ⟨F2, a1, a2, a3, a4⟩ := m_plain3 (σ := σ) (b := b) hb ho hto hwo (n := n) (k := k) hx32 hN hks hnf (W.length - n) n F1 l (by omega) hln1 (m_out_fr hmo hfr1 (by decide)) (m_words_fr hw hfr1 (by decide)) (m_names_fr hm hfr1 (by decide)) hpr1 (by omega)
    have hfr2 : fr [3429] [52, 54, 55] [] F F2 := fr_trans hfr1 (fr_mono a4 (by decide) (by decide) (by decide))
    have hlen2 : (l ++ (ks.drop n).map (fun q => (ks.getD k 0, q))).length + m * (W.length - n) ≤ 80 := by
      rw [List.length_append, List.length_map, List.length_drop, hks]
      omega
    obtain ⟨F', e1, e2, e3, e4, e5⟩ := ih (k + 1) F2 (l ++ (ks.drop n).map (fun q => (ks.getD k 0, q))) (fun j => fl j || decide (j = ks.getD k 0)) (by omega) a3 (m_out_fr hmo hfr2 (by decide)) (m_words_fr hw hfr2 (by decide)) (m_names_fr hm hfr2 (by decide)) a2 hlen2 (fun j hj => by
      rw [a4.2.1 52 (by decide)]
      subst hF1
      rw [fx_A_A, if_pos rfl, set_get (by omega)]
      by_cases ej : j = ks.getD k 0
      · rw [if_pos ej, decide_eq_true ej, Bool.or_true, b2_t]
      · rw [if_neg ej, decide_eq_false ej, Bool.or_false]
        exact hfl j hj)
    have hdr : (ks.take n).drop k = ks.getD k 0 :: (ks.take n).drop (k + 1) := by
      rw [List.drop_eq_getElem_cons (by rw [List.length_take]; omega)]
      congr 1
      rw [List.getElem_take, getD_get (by omega)]
    rw [hdr]
    refine ⟨F', ?_, ?_, fun j hj => ?_, e4, fr_trans hfr2 e5⟩
    · rw [← e1]
      refine rb_it_l ?_
      show f_M_plainLine_b123 _ _ _ _ = _
      unfold f_M_plainLine_b123
      rw [← a1]
      subst hF1
      simp (disch := omega) only [↓fx_bm, ↓fx_vm hb, ↓cL_of hword, ↓cI_of hfind, ↓reduceIte, n_ltT, n_ltF, n_leT, n_leF, n_eqT, n_eqF, nI_1, u_lt, u_le, u_eq, u_add, u_ix, u_ixL, u_ixR, u_cl, u_nm1, u_nm1', u_m1l, u_m1n, u_l0, Option.bind_some, Option.map_some, not_true_eq_false, not_false_eq_true, true_and, and_true, Nat.add_sub_cancel, Bool.false_eq_true, u_nar2, u_nar4, u_l1]
    · rw [List.flatMap_cons, ← List.append_assoc]
      exact e2
    · rw [e3 j hj]
      simp only [List.mem_cons, Bool.decide_or, Bool.or_assoc]
theorem m_plainLine (hb : rb_b σ ≤ b) (hF : fx_ln F) {R : RS} (hR : rok R) (hm : m_rules F T R) {o : List Nat} (ho : o.length ≤ 120) (hto : tk o) {W : List (Nat × Nat)} (hwo : wok o W) {n : Nat} (hn1 : 1 ≤ n) (hn : n ≤ W.length) (hmo : m_out F o) (hmw : m_words F W) : ∃ F', f_M_plainLine (some (fx_ad b 34)) (nI n) (fx_mk σ b F) = some (some (.int (nI (b2 (x_plain R n (wl o W)).1))), fx_mk σ b F') ∧ m_res T F F' (x_plain R n (wl o W)) := by
  have hw60 := hwo.1
  obtain ⟨g1, g2, g3, g4, g5, g6, g7, g8, g9, g10, g11, g12⟩ := hm
  obtain ⟨r1, r2, r3, r4, r5, r6, r7, r8⟩ := hR
  have r80 := r5.1
  have hfr0 : fr [3440, 3441] [] [] F (fx_I (fx_I F 3440 (nI 4)) 3441 (nI 0)) := fr_I (fr_I (fr_refl _ _ _ _) (by decide)) (by decide)
  obtain ⟨F1, a1, a2, a3, a4⟩ := m_plain1 (σ := σ) (b := b) hb ho hto hwo (n := n) (by omega) W.length 0 (fx_I (fx_I F 3440 (nI 4)) 3441 (nI 0)) (rN R) (-1) (by omega) (fx_lnI (fx_lnI hF)) (m_out_fr hmo hfr0 (by decide)) (m_words_fr hmw hfr0 (by decide)) r1 (m_names_fr g1 hfr0 (by decide))
  have hfr1 : fr [3402, 3440, 3441] [] [36] F F1 := fr_trans (fr_mono hfr0 (by decide) (by decide) (by decide)) (fr_mono a3 (by decide) (by decide) (by decide))
  have hgo : f_M_plainLine (some (fx_ad b 34)) (nI n) (fx_mk σ b F) = rb_it (fun z : (Int32 × Int32 × rb_St) => f_M_plainLine_b14 (some (fx_ad b 34)) (nI n) (z.1) (z.2.1) z.2.2) ((-1 : Int32), nI 0, fx_mk σ b (fx_I (fx_I F 3440 (nI 4)) 3441 (nI 0))) := by
    unfold f_M_plainLine
    simp (disch := omega) only [↓fx_vm hb, u_l4, u_l0]
  rw [hgo]
  have hok := meets_ok (wl o W) (rN R) r1
  have hmn := meets_nf (wl o W) (rN R)
  unfold x_plain
  rw [List.drop_zero] at a1 a4
  rcases hx : x_meets (wl o W) (rN R) with ⟨r, N⟩
  rw [hx] at a1 a4 hok hmn
  cases r with
  | none =>
    refine ⟨F1, a4, fun h => (by cases h), a1, a2, fr_mono hfr1 (by decide) (by decide) (by decide)⟩
  | some ks =>
    obtain ⟨hl, hnf⟩ := hmn ks rfl
    rw [wl_len] at hl
    have hnf' : ∀ i, i < W.length → nf N (wd o W i) = some (ks.getD i 0) := fun i hi => by
      rw [← wl_get hi]
      exact hnf i (by rw [wl_len]; exact hi)
    obtain ⟨c1, c2⟩ := a4
    rw [if_pos ⟨rfl, by omega⟩, Nat.sub_zero] at *
    have hnu : F1.1 3440 = nI 4 := by
      rw [a3.1 3440 (by decide)]
      simp only [fx_II, fx_AA, fx_LL, fx_I_1, fx_I_A, fx_I_L, fx_I_R, fx_I_Q, fx_A_1, fx_A_A, fx_A_L, fx_A_R, fx_A_Q, fx_L_1, fx_L_A, fx_L_L, fx_L_R, fx_L_Q, fx_R_1, fx_R_A, fx_R_L, fx_R_R, fx_R_Q, fx_Q_1, fx_Q_A, fx_Q_L, fx_Q_R, fx_Q_Q, Bool.false_eq_true, Option.bind_some, Option.map_some, rb_cI, rb_cL, rb_cR, rb_cV, reduceIte, ite_true, ite_false, not_true_eq_false, not_false_eq_true, true_and, and_true, Nat.reduceEqDiff, Nat.reduceAdd, Nat.reduceMul, Nat.add_sub_cancel]
    have hw1 : m_words F1 W := m_words_fr hmw hfr1 (by decide)
    have hpr1 : m_pr F1 (rPr R) := m_pr_fr g5 hfr1 (by decide)
    simp only
    rw [c1, wl_len]
    have hmul : n * (W.length - n) ≤ 3600 := by
      calc n * (W.length - n) ≤ 60 * 60 := Nat.mul_le_mul (by omega) (by omega)
        _ = 3600 := rfl
    by_cases h80 : 80 < (rPr R).length + n * (W.length - n)
    · rw [if_pos h80]
      refine ⟨F1, ?_, fun h => (by cases h), a1, a2, fr_mono hfr1 (by decide) (by decide) (by decide)⟩
      refine rb_it_m ?_
      show f_M_plainLine_b14 _ _ _ _ _ = _
      unfold f_M_plainLine_b14
      simp (disch := omega) only [↓fx_bm, hw1.1, hpr1.1, u_sub, u_mul, show (80 : Int32) = nI 80 from rfl, ↓reduceIte, n_ltT, n_ltF, n_leT, n_leF, n_eqT, n_eqF, nI_1, u_lt, u_le, u_eq, u_add, u_ix, u_ixL, u_ixR, u_cl, u_nm1, u_nm1', u_m1l, u_m1n, u_l0, Option.bind_some, Option.map_some, not_true_eq_false, not_false_eq_true, true_and, and_true, Nat.add_sub_cancel, Bool.false_eq_true, u_nar2, b2_f]
    · rw [if_neg h80]
      have hop1 : F1.1 3426 = oi (rOp R 1) := (hfr1.1 3426 (by decide)).trans g9.2
      -- the first target
      have hh : ks.head? = some (ks.getD 0 0) := by
        cases ks with
        | nil => exact absurd hl (by simp only [List.length_nil]; omega)
        | cons a t => rfl
      have hk0 : ks.getD 0 0 < 32 := Nat.lt_of_lt_of_le (nf_lt (hnf' 0 (by omega))) hok.1
      generalize hft : (match rOp R 1 with | some k => some k | none => ks.head?) = ft
      have hfr2 : fr [3402, 3426, 3440, 3441] [] [36] F (fx_I F1 3426 (oi ft)) := fr_I (fr_mono hfr1 (by decide) (by decide) (by decide)) (by decide)
      obtain ⟨F', e1, e2, e3, e4, e5⟩ := m_plain2 (σ := σ) (b := b) hb ho hto hwo hn hok hl hnf' n 0 (fx_I F1 3426 (oi ft)) (rPr R) (rFl R 0) (by omega) (fx_lnI a2) (m_out_fr hmo hfr2 (by decide)) (m_words_fr hmw hfr2 (by decide)) a1 hpr1 (by omega) (fun j hj => by
        have := (g8 j hj).1
        rw [← hfr2.2.1 52 (by decide)] at this
        exact this)
      rw [List.drop_zero] at e2 e3
      have hfr : fr [3402, 3426, 3429, 3440, 3441] [52, 54, 55] [36] F F' := fr_trans (fr_mono hfr2 (by decide) (by decide) (by decide)) (fr_mono e5 (by decide) (by decide) (by decide))
      refine ⟨F', ?_, fun _ => ⟨m_names_fr a1 (fr_trans (fr_I (fr_refl [3426, 3429] [52, 54, 55] [] _) (by decide)) (fr_mono e5 (by decide) (by decide) (by decide))) (by decide), m_sf_fr g2 hfr (by decide), m_en_fr g3 hfr (by decide), m_cm_fr g4 hfr (by decide), e2, m_defd_fr g6 hfr (by decide), m_ow_fr g7 hfr (by decide), fun j hj => ?_, ⟨(hfr.1 3438 (by decide)).trans ?_, ?_⟩, m_bo_fr g10 hfr (by decide), ⟨(hfr.1 3439 (by decide)).trans ?_, ?_⟩, ⟨fun h => (by cases h), fun _ j hj => ?_⟩⟩, m_names_fr a1 (fr_trans (fr_I (fr_refl [3426, 3429] [52, 54, 55] [] _) (by decide)) (fr_mono e5 (by decide) (by decide) (by decide))) (by decide), e4, fr_mono hfr (by decide) (by decide) (by decide)⟩
      · show _ = some (some (Value.int (nI 1)), _)
        rw [← e1]
        refine rb_it_m ?_
        show f_M_plainLine_b14 _ _ _ _ _ = _
        unfold f_M_plainLine_b14
        cases ho1 : rOp R 1 with
        | none =>
          rw [ho1, oi_none] at hop1
          rw [ho1] at hft
          subst hft
          simp (disch := omega) only [↓fx_bm, ↓fx_vm hb, hw1.1, hpr1.1, hop1, u_sub, u_mul, show (80 : Int32) = nI 80 from rfl, u_0m1, ↓reduceIte, n_ltT, n_ltF, n_leT, n_leF, n_eqT, n_eqF, nI_1, u_lt, u_le, u_eq, u_add, u_ix, u_ixL, u_ixR, u_cl, u_nm1, u_nm1', u_m1l, u_m1n, u_l0, Option.bind_some, Option.map_some, not_true_eq_false, not_false_eq_true, true_and, and_true, Nat.add_sub_cancel, Bool.false_eq_true, u_nar2]
        | some k1 =>
          have := r7 k1 ho1
          have := r1.1
          rw [ho1, oi_some] at hop1
          rw [ho1] at hft
          subst hft
          simp (disch := omega) only [↓fx_bm, ↓fx_vm hb, hw1.1, hpr1.1, hop1, u_sub, u_mul, show (80 : Int32) = nI 80 from rfl, u_0m1, ↓reduceIte, n_ltT, n_ltF, n_leT, n_leF, n_eqT, n_eqF, nI_1, u_lt, u_le, u_eq, u_add, u_ix, u_ixL, u_ixR, u_cl, u_nm1, u_nm1', u_m1l, u_m1n, u_l0, Option.bind_some, Option.map_some, not_true_eq_false, not_false_eq_true, true_and, and_true, Nat.add_sub_cancel, Bool.false_eq_true, u_nar2, oi_some]
      · obtain ⟨u0, u1, u2, u3⟩ := g8 j hj
        rw [hfr.2.1 49 (by decide), hfr.2.1 50 (by decide), hfr.2.1 51 (by decide)]
        refine ⟨?_, ?_, ?_, ?_⟩
        · rw [e3 j hj]
          show _ = some (nI (b2 (if 0 = 4 then decide (j ∈ ks.take n) else rFl R 0 j || (decide (0 = 0) && decide (j ∈ ks.take n)))))
          rw [if_neg (by decide), decide_eq_true (rfl : 0 = 0), Bool.true_and]
        · rw [u1]
          show _ = some (nI (b2 (if 1 = 4 then decide (j ∈ ks.take n) else rFl R 1 j || (decide (1 = 0) && decide (j ∈ ks.take n)))))
          rw [if_neg (by decide), decide_eq_false (by decide : ¬ 1 = 0), Bool.false_and, Bool.or_false]
        · rw [u2]
          show _ = some (nI (b2 (if 2 = 4 then decide (j ∈ ks.take n) else rFl R 2 j || (decide (2 = 0) && decide (j ∈ ks.take n)))))
          rw [if_neg (by decide), decide_eq_false (by decide : ¬ 2 = 0), Bool.false_and, Bool.or_false]
        · rw [u3]
          show _ = some (nI (b2 (if 3 = 4 then decide (j ∈ ks.take n) else rFl R 3 j || (decide (3 = 0) && decide (j ∈ ks.take n)))))
          rw [if_neg (by decide), decide_eq_false (by decide : ¬ 3 = 0), Bool.false_and, Bool.or_false]
      · exact g9.1
      · rw [e5.1 3426 (by decide), fx_I_1, if_pos rfl, ← hft]
        rfl
      · exact g11.1
      · rw [e5.1 3440 (by decide)]
        exact hnu
      · rw [bt_eq hj, e5.1 3441 (by decide)]
        have hb0 := c2 j hj
        show (bt (F1.1 3441) j = true) = _
        rw [hb0]
        have hz : bt ((fx_I (fx_I F 3440 (nI 4)) 3441 (nI 0)).1 3441) j = false := by
          rw [fx_I_1, if_pos rfl]
          exact bt_0 j
        rw [hz, Bool.false_or]
        show _ = ((if 4 = 4 then decide (j ∈ ks.take n) else rFl R 4 j || (decide (4 = 0) && decide (j ∈ ks.take n))) = true)
        rw [if_pos rfl]
end
