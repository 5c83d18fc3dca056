/-! the reference: a rule line -/
theorem sr_m {P : Nat → Bool} {m k : Nat} : sr P (m + 1) k = if P k = true then some k else sr P m (k + 1) := (rfl)
theorem rok_line {R : RS} (h : rok R) (h1 : rNu R 0 < 1000) : rok (wNu R (up1 (up1 (rNu R) 0 (rNu R 0 + 1)) 1 1)) := by
  obtain ⟨r1, r2, r3, r4, r5, r6, r7, r8, r9, r10, r11, r12, r13⟩ := h
  have e0 : up1 (up1 (rNu R) 0 (rNu R 0 + 1)) 1 1 0 = rNu R 0 + 1 := by rw [up1_ne (by decide), up1_eq]
  have e1 : up1 (up1 (rNu R) 0 (rNu R 0 + 1)) 1 1 1 = 1 := up1_eq _ _ _
  refine ⟨r1, r2, r3, r4, r5, r6, r7, ?_, ?_, ?_, ?_, ?_, ?_⟩
  · show up1 (up1 (rNu R) 0 (rNu R 0 + 1)) 1 1 0 ≤ _
    rw [e0]; omega
  · show up1 (up1 (rNu R) 0 (rNu R 0 + 1)) 1 1 1 ≤ _
    rw [e1]; omega
  · intro k hk
    show _ ≤ up1 (up1 (rNu R) 0 (rNu R 0 + 1)) 1 1 0 ∧ _
    rw [e0]
    obtain ⟨a, c, d⟩ := r10 k hk
    exact ⟨Nat.le_succ_of_le a, c, d⟩
  · intro k g hk
    show _ ≤ up1 (up1 (rNu R) 0 (rNu R 0 + 1)) 1 1 0 ∧ _
    rw [e0]
    obtain ⟨a, c⟩ := r11 k g hk
    exact ⟨Nat.le_succ_of_le a, c⟩
  · intro g hk
    show _ ≤ up1 (up1 (rNu R) 0 (rNu R 0 + 1)) 1 1 0 ∧ _
    rw [e0]
    obtain ⟨a, c⟩ := r12 g hk
    exact ⟨Nat.le_succ_of_le a, c⟩
  · intro k g hk
    show _ ≤ up1 (up1 (rNu R) 0 (rNu R 0 + 1)) 1 1 0 ∧ _
    rw [e0]
    obtain ⟨a, c⟩ := r13 k g hk
    exact ⟨Nat.le_succ_of_le a, c⟩
theorem m_res_fr {T : List Nat} {F F1 F' : fx_F} {x : Bool × RS} (h : fr zRi zRa zRl F F1) (hr : m_res T F1 F' x) : m_res T F F' x := ⟨hr.1, hr.2.1, hr.2.2.1, fr_trans h hr.2.2.2⟩
theorem ok_nil : pq_ok [] := fun c hc => (by cases hc)
section
variable {σ : rb_St} {b : Nat} {F : fx_F} {T : List Nat} {gv : Nat → Option (List Nat)}
theorem m_colC {o : List Nat} (ho : o.length ≤ 120) (hmo : m_out F o) : ∀ (m k t : Nat) (x : Int32), k + m = o.length → 2 ≤ t → t + m ≤ 1000 → rb_it (fun z : (Int32 × Int32 × Int32) => f_M_ruleLine_b20 (some (fx_ad b 34)) (z.1) (z.2.1) (z.2.2) (fx_mk σ b F)) (x, nI t, nI k) = some (some (.int (nI 0)), fx_mk σ b F) := by
  intro m
  induction m with
  | zero =>
    intro k t x hk h2 ht
    refine rb_it_r ?_
    show f_M_ruleLine_b20 _ _ _ _ _ = _
    unfold f_M_ruleLine_b20
    simp (disch := omega) only [↓fx_bm, hmo.1, u_l1, ↓reduceIte, n_ltT, n_ltF, n_leT, n_leF, n_eqT, n_eqF, nI_1, u_lt, u_le, u_eq, u_add, u_ix, u_ixL, u_ixR, u_cl, u_nm1, u_nm1', u_m1l, u_m1n, u_l0, Option.bind_some, Option.map_some, not_true_eq_false, not_false_eq_true, true_and, and_true, Nat.add_sub_cancel, Bool.false_eq_true, u_nar2]
  | succ m ih =>
    intro k t x hk h2 ht
    have hg := rk_getD hmo.2 (i := k) (by omega)
    by_cases e : nI (o.getD k 0) = (58 : Int32)
    · rw [← ih (k + 1) (t + 1) (nI k) (by omega) (by omega) (by omega)]
      refine rb_it_l ?_
      show f_M_ruleLine_b20 _ _ _ _ _ = _
      unfold f_M_ruleLine_b20
      simp (disch := omega) only [↓fx_bm, hmo.1, ↓bx_of rfl (show k < 2147483648 by omega) hg, e, f_M_ruleLine_j47, u_l1, ↓reduceIte, n_ltT, n_ltF, n_leT, n_leF, n_eqT, n_eqF, nI_1, u_lt, u_le, u_eq, u_add, u_ix, u_ixL, u_ixR, u_cl, u_nm1, u_nm1', u_m1l, u_m1n, u_l0, Option.bind_some, Option.map_some, not_true_eq_false, not_false_eq_true, true_and, and_true, Nat.add_sub_cancel, Bool.false_eq_true, u_nar2]
    · rw [← ih (k + 1) t x (by omega) (by omega) (by omega)]
      refine rb_it_l ?_
      show f_M_ruleLine_b20 _ _ _ _ _ = _
      unfold f_M_ruleLine_b20
      simp (disch := omega) only [↓fx_bm, hmo.1, ↓bx_of rfl (show k < 2147483648 by omega) hg, e, f_M_ruleLine_j47, u_l1, ↓reduceIte, n_ltT, n_ltF, n_leT, n_leF, n_eqT, n_eqF, nI_1, u_lt, u_le, u_eq, u_add, u_ix, u_ixL, u_ixR, u_cl, u_nm1, u_nm1', u_m1l, u_m1n, u_l0, Option.bind_some, Option.map_some, not_true_eq_false, not_false_eq_true, true_and, and_true, Nat.add_sub_cancel, Bool.false_eq_true, u_nar2]
theorem tk_58 {o : List Nat} (hto : tk o) {k : Nat} (hk : k < o.length) : (nI (o.getD k 0) = (58 : Int32)) = (o.getD k 0 = 58) := by
  have := ty_lt (tk_get hto hk)
  rw [u_l58]
  exact u_eq (by omega) (by omega)
theorem m_colB {o : List Nat} (ho : o.length ≤ 120) (hto : tk o) (hmo : m_out F o) {c : Nat} : ∀ (m k : Nat), k + m = o.length → rb_it (fun z : (Int32 × Int32 × Int32) => f_M_ruleLine_b20 (some (fx_ad b 34)) (z.1) (z.2.1) (z.2.2) (fx_mk σ b F)) (nI c, nI 1, nI k) = match sr (fun k => decide (o.getD k 0 = 58)) m k with
    | some _ => some (some (.int (nI 0)), fx_mk σ b F)
    | none => rb_it (fun z : (Int32 × Int32 × Int32) => f_M_ruleLine_b20 (some (fx_ad b 34)) (z.1) (z.2.1) (z.2.2) (fx_mk σ b F)) (nI c, nI 1, nI o.length) := by
  intro m
  induction m with
  | zero =>
    intro k hk
    rw [show o.length = k by omega]
    rfl
  | succ m ih =>
    intro k hk
    have hg := rk_getD hmo.2 (i := k) (by omega)
    have ht := tk_58 hto (k := k) (by omega)
    rw [sr_m]
    by_cases e : o.getD k 0 = 58
    · rw [if_pos (decide_eq_true e)]
      simp only
      rw [← m_colC (σ := σ) (b := b) ho hmo m (k + 1) 2 (nI k) (by omega) (by omega) (by omega)]
      refine rb_it_l ?_
      show f_M_ruleLine_b20 _ _ _ _ _ = _
      unfold f_M_ruleLine_b20
      simp (disch := omega) only [↓fx_bm, hmo.1, ↓bx_of rfl (show k < 2147483648 by omega) hg, e, f_M_ruleLine_j47, u_l1, u_l58, Nat.reduceAdd, ↓reduceIte, n_ltT, n_ltF, n_leT, n_leF, n_eqT, n_eqF, nI_1, u_lt, u_le, u_eq, u_add, u_ix, u_ixL, u_ixR, u_cl, u_nm1, u_nm1', u_m1l, u_m1n, u_l0, Option.bind_some, Option.map_some, not_true_eq_false, not_false_eq_true, true_and, and_true, Nat.add_sub_cancel, Bool.false_eq_true, u_nar2]
    · rw [if_neg (by simpa using e), ← ih (k + 1) (by omega)]
      refine rb_it_l ?_
      show f_M_ruleLine_b20 _ _ _ _ _ = _
      unfold f_M_ruleLine_b20
      simp (disch := omega) only [↓fx_bm, hmo.1, ↓bx_of rfl (show k < 2147483648 by omega) hg, ht, e, f_M_ruleLine_j47, u_l1, ↓reduceIte, n_ltT, n_ltF, n_leT, n_leF, n_eqT, n_eqF, nI_1, u_lt, u_le, u_eq, u_add, u_ix, u_ixL, u_ixR, u_cl, u_nm1, u_nm1', u_m1l, u_m1n, u_l0, Option.bind_some, Option.map_some, not_true_eq_false, not_false_eq_true, true_and, and_true, Nat.add_sub_cancel, Bool.false_eq_true, u_nar2]
theorem m_colA {o : List Nat} (ho : o.length ≤ 120) (hto : tk o) (hmo : m_out F o) : ∀ (m k : Nat), k + m = o.length → rb_it (fun z : (Int32 × Int32 × Int32) => f_M_ruleLine_b20 (some (fx_ad b 34)) (z.1) (z.2.1) (z.2.2) (fx_mk σ b F)) ((-1 : Int32), nI 0, nI k) = match sr (fun k => decide (o.getD k 0 = 58)) m k with
    | none => some (some (.int (nI 0)), fx_mk σ b F)
    | some c => rb_it (fun z : (Int32 × Int32 × Int32) => f_M_ruleLine_b20 (some (fx_ad b 34)) (z.1) (z.2.1) (z.2.2) (fx_mk σ b F)) (nI c, nI 1, nI (c + 1)) := by
  intro m
  induction m with
  | zero =>
    intro k hk
    refine rb_it_r ?_
    show f_M_ruleLine_b20 _ _ _ _ _ = _
    unfold f_M_ruleLine_b20
    simp (disch := omega) only [↓fx_bm, hmo.1, u_l1, ↓reduceIte, n_ltT, n_ltF, n_leT, n_leF, n_eqT, n_eqF, nI_1, u_lt, u_le, u_eq, u_add, u_ix, u_ixL, u_ixR, u_cl, u_nm1, u_nm1', u_m1l, u_m1n, u_l0, Option.bind_some, Option.map_some, not_true_eq_false, not_false_eq_true, true_and, and_true, Nat.add_sub_cancel, Bool.false_eq_true, u_nar2]
  | succ m ih =>
    intro k hk
    have hg := rk_getD hmo.2 (i := k) (by omega)
    have ht := tk_58 hto (k := k) (by omega)
    rw [sr_m]
    by_cases e : o.getD k 0 = 58
    · rw [if_pos (decide_eq_true e)]
      simp only
      refine rb_it_l ?_
      show f_M_ruleLine_b20 _ _ _ _ _ = _
      unfold f_M_ruleLine_b20
      simp (disch := omega) only [↓fx_bm, hmo.1, ↓bx_of rfl (show k < 2147483648 by omega) hg, e, f_M_ruleLine_j47, u_l1, u_l58, Nat.reduceAdd, ↓reduceIte, n_ltT, n_ltF, n_leT, n_leF, n_eqT, n_eqF, nI_1, u_lt, u_le, u_eq, u_add, u_ix, u_ixL, u_ixR, u_cl, u_nm1, u_nm1', u_m1l, u_m1n, u_l0, Option.bind_some, Option.map_some, not_true_eq_false, not_false_eq_true, true_and, and_true, Nat.add_sub_cancel, Bool.false_eq_true, u_nar2]
    · rw [if_neg (by simpa using e), ← ih (k + 1) (by omega)]
      refine rb_it_l ?_
      show f_M_ruleLine_b20 _ _ _ _ _ = _
      unfold f_M_ruleLine_b20
      simp (disch := omega) only [↓fx_bm, hmo.1, ↓bx_of rfl (show k < 2147483648 by omega) hg, ht, e, f_M_ruleLine_j47, u_l1, ↓reduceIte, n_ltT, n_ltF, n_leT, n_leF, n_eqT, n_eqF, nI_1, u_lt, u_le, u_eq, u_add, u_ix, u_ixL, u_ixR, u_cl, u_nm1, u_nm1', u_m1l, u_m1n, u_l0, Option.bind_some, Option.map_some, not_true_eq_false, not_false_eq_true, true_and, and_true, Nat.add_sub_cancel, Bool.false_eq_true, u_nar2]
/-- the line by its words -/
theorem m_byWords (hb : rb_b σ ≤ b) (hF : fx_ln F) {R : RS} (hR : rok R) (hE : eok R) (hm : m_rules F T R) (hk1 : rNu R 1 = 1) {o : List Nat} (ho : o.length ≤ 120) (hto : tk o) {W : List (Nat × Nat)} (hwo : wok o W) {n : Nat} (hn1 : 1 ≤ n) (hn : n ≤ W.length) (hmo : m_out F o) (hmw : m_words F W) {only : List Nat} (hon : only = if n = 1 then (wl o W).getD 0 [] else []) : ∃ F', f_M_ruleLine_j150 (some (fx_ad b 34)) (nI n) (pk only) (fx_mk σ b F) = some (some (.int (nI (b2 (if only = q_SUF then x_sufL R (wl o W)
  else if only = q_PHO ∨ only = q_IGN ∨ only = q_SIL then x_markL R only (wl o W)
  else if only = q_DEF then (if (wl o W).length = 1 then (true, wNu R (up1 (rNu R) 1 2)) else (false, R))
  else if n = 1 ∧ (wl o W).length = 1 then (match x_from (rSf R) only with
    | some rs => x_end R rs
    | none => x_plain R n (wl o W))
  else x_plain R n (wl o W)).1))), fx_mk σ b F') ∧ m_res T F F' (if only = q_SUF then x_sufL R (wl o W)
  else if only = q_PHO ∨ only = q_IGN ∨ only = q_SIL then x_markL R only (wl o W)
  else if only = q_DEF then (if (wl o W).length = 1 then (true, wNu R (up1 (rNu R) 1 2)) else (false, R))
  else if n = 1 ∧ (wl o W).length = 1 then (match x_from (rSf R) only with
    | some rs => x_end R rs
    | none => x_plain R n (wl o W))
  else x_plain R n (wl o W)) := by
  have hw60 := hwo.1
  have hok : pq_ok only := by
    rw [hon]
    split
    · rw [wl_get (by omega)]
      exact tk_ok (wd_tk hto W 0)
    · exact ok_nil
  have hkd : F.1 3440 = nI 1 := by
    have := hm.2.2.2.2.2.2.2.2.2.2.1.2
    rwa [hk1] at this
  have hpl : ∀ F1 : fx_F, F1 = F → ∃ F', f_M_ruleLine_j249 (some (fx_ad b 34)) (nI n) (fx_mk σ b F) = some (some (.int (nI (b2 (x_plain R n (wl o W)).1))), fx_mk σ b F') ∧ m_res T F F' (x_plain R n (wl o W)) := by
    intro _ _
    obtain ⟨F', e1, e2⟩ := m_plainLine (σ := σ) (b := b) hb hF hR hm ho hto hwo hn1 hn hmo hmw
    refine ⟨F', ?_, e2⟩
    unfold f_M_ruleLine_j249
    cases hx : (x_plain R n (wl o W)).1
    · rw [hx, b2_f] at e1
      simp (disch := omega) only [↓fx_bm, hkd, u_l3, ↓cI_of e1, ↓reduceIte, n_ltT, n_ltF, n_leT, n_leF, n_eqT, n_eqF, nI_1, u_lt, u_le, u_eq, u_add, u_ix, u_ixL, u_ixR, u_cl, u_nm1, u_nm1', u_m1l, u_m1n, u_l0, Option.bind_some, Option.map_some, not_true_eq_false, not_false_eq_true, true_and, and_true, Nat.add_sub_cancel, Bool.false_eq_true, u_nar2, b2_f]
    · rw [hx, b2_t] at e1
      simp (disch := omega) only [↓fx_bm, hkd, u_l3, u_l1, ↓cI_of e1, ↓reduceIte, n_ltT, n_ltF, n_leT, n_leF, n_eqT, n_eqF, nI_1, u_lt, u_le, u_eq, u_add, u_ix, u_ixL, u_ixR, u_cl, u_nm1, u_nm1', u_m1l, u_m1n, u_l0, Option.bind_some, Option.map_some, not_true_eq_false, not_false_eq_true, true_and, and_true, Nat.add_sub_cancel, Bool.false_eq_true, u_nar2, b2_t]
  obtain ⟨Fp, p1, p2⟩ := hpl F rfl
  unfold f_M_ruleLine_j150
  simp only [c_SUF hok, c_PHO hok, c_IGN hok, c_SIL hok, c_DEF hok]
  by_cases hs : only = q_SUF
  · rw [if_pos hs, if_pos hs]
    obtain ⟨F', e1, e2⟩ := m_suffixLine (σ := σ) (b := b) hb hF hR hm hk1 ho hto hwo (by omega) hmo hmw
    refine ⟨F', ?_, e2⟩
    simp (disch := omega) only [↓fx_bm, ↓cI_of e1, if_pos (isZ_b2 _)]
  · rw [if_neg hs, if_neg hs]
    by_cases hmk : only = q_PHO ∨ only = q_IGN ∨ only = q_SIL
    · rw [if_pos hmk]
      obtain ⟨F', e1, e2⟩ := m_markLine (σ := σ) (b := b) hb hF hR.1 hm hk1 ho hto hwo (by omega) hmo hmw hok
      refine ⟨F', ?_, e2⟩
      have e3 : f_M_ruleLine_j193 (some (fx_ad b 34)) (pk only) (fx_mk σ b F) = some (some (.int (nI (b2 (x_markL R only (wl o W)).1))), fx_mk σ b F') := by
        unfold f_M_ruleLine_j193
        simp (disch := omega) only [↓fx_bm, ↓cI_of e1, if_pos (isZ_b2 _)]
      by_cases h1 : only = q_PHO
      · rw [if_pos h1, e3]
      · rw [if_neg h1]
        by_cases h2 : only = q_IGN
        · rw [if_pos h2, e3]
        · rw [if_neg h2, if_pos (by rcases hmk with h | h | h <;> first | contradiction | exact h), e3]
    · rw [if_neg hmk, if_neg (fun h => hmk (Or.inl h)), if_neg (fun h => hmk (Or.inr (Or.inl h))), if_neg (fun h => hmk (Or.inr (Or.inr h)))]
      by_cases hd : only = q_DEF
      · rw [if_pos hd, if_pos hd, wl_len]
        have hfr : fr [3440] [] [] F (fx_I F 3440 (nI 2)) := fr_I (fr_refl _ _ _ _) (by decide)
        obtain ⟨g1, g2, g3, g4, g5, g6, g7, g8, g9, g10, g11, g12⟩ := hm
        have hm1 := hmw.1
        refine ⟨fx_I F 3440 (nI 2), ?_, ?_⟩
        · by_cases hw1 : W.length = 1
          · rw [if_pos hw1]
            rw [hw1] at hm1
            simp (disch := omega) only [↓fx_bm, ↓fx_vm hb, u_l2, u_l1, hm1, ↓reduceIte, n_ltT, n_ltF, n_leT, n_leF, n_eqT, n_eqF, nI_1, u_lt, u_le, u_eq, u_add, u_ix, u_ixL, u_ixR, u_cl, u_nm1, u_nm1', u_m1l, u_m1n, u_l0, Option.bind_some, Option.map_some, not_true_eq_false, not_false_eq_true, true_and, and_true, Nat.add_sub_cancel, Bool.false_eq_true, u_nar2, fx_II, fx_AA, fx_LL, fx_I_1, fx_I_A, fx_I_L, fx_I_R, fx_I_Q, fx_A_1, fx_A_A, fx_A_L, fx_A_R, fx_A_Q, fx_L_1, fx_L_A, fx_L_L, fx_L_R, fx_L_Q, fx_R_1, fx_R_A, fx_R_L, fx_R_R, fx_R_Q, fx_Q_1, fx_Q_A, fx_Q_L, fx_Q_R, fx_Q_Q, Nat.reduceEqDiff, b2_t]
          · rw [if_neg hw1]
            simp (disch := omega) only [↓fx_bm, ↓fx_vm hb, u_l2, u_l1, hm1, ↓reduceIte, n_ltT, n_ltF, n_leT, n_leF, n_eqT, n_eqF, nI_1, u_lt, u_le, u_eq, u_add, u_ix, u_ixL, u_ixR, u_cl, u_nm1, u_nm1', u_m1l, u_m1n, u_l0, Option.bind_some, Option.map_some, not_true_eq_false, not_false_eq_true, true_and, and_true, Nat.add_sub_cancel, Bool.false_eq_true, u_nar2, fx_II, fx_AA, fx_LL, fx_I_1, fx_I_A, fx_I_L, fx_I_R, fx_I_Q, fx_A_1, fx_A_A, fx_A_L, fx_A_R, fx_A_Q, fx_L_1, fx_L_A, fx_L_L, fx_L_R, fx_L_Q, fx_R_1, fx_R_A, fx_R_L, fx_R_R, fx_R_Q, fx_Q_1, fx_Q_A, fx_Q_L, fx_Q_R, fx_Q_Q, Nat.reduceEqDiff, b2_f]
        · by_cases hw1 : W.length = 1
          · rw [if_pos hw1]
            refine ⟨fun _ => ⟨m_names_fr g1 hfr (by decide), m_sf_fr g2 hfr (by decide), m_en_fr g3 hfr (by decide), m_cm_fr g4 hfr (by decide), m_pr_fr g5 hfr (by decide), m_defd_fr g6 hfr (by decide), m_ow_fr g7 hfr (by decide), m_fl_fr g8 hfr (by decide), m_op_fr g9 hfr (by decide), m_bo_fr g10 hfr (by decide), ⟨(hfr.1 3439 (by decide)).trans ?_, ?_⟩, ⟨fun h => ?_, fun h => ?_⟩⟩, m_names_fr g1 hfr (by decide), fx_lnI hF, fr_mono hfr (by decide) (by decide) (by decide)⟩
            · exact g11.1
            · rw [fx_I_1, if_pos rfl]
              rfl
            · cases h
            · cases h
          · rw [if_neg hw1]
            exact ⟨fun h => (by cases h), m_names_fr g1 hfr (by decide), fx_lnI hF, fr_mono hfr (by decide) (by decide) (by decide)⟩
      · rw [if_neg hd, if_neg hd, wl_len]
        by_cases hn2 : n = 1
        · by_cases hw1 : W.length = 1
          · rw [if_pos (show n = 1 ∧ W.length = 1 from ⟨hn2, hw1⟩)]
            have hwd : only = wd o W 0 := by
              rw [hon, if_pos hn2, wl_get (by omega)]
            have hel := m_endingLine (σ := σ) (b := b) hb hF hR hE hm hk1 ho hto hwo (by omega) hmo hmw
            rw [← hwd] at hel
            have hm1 := hmw.1
            rw [hw1] at hm1
            rw [if_pos (show nI n = (1 : Int32) by rw [hn2]; rfl)]
            cases hxf : x_from (rSf R) only with
            | none =>
              rw [hxf] at hel
              simp only at hel
              simp only
              refine ⟨Fp, ?_, p2⟩
              simp (disch := omega) only [↓fx_bm, hm1, u_l1, ↓cI_of hel, ↓reduceIte, n_ltT, n_ltF, n_leT, n_leF, n_eqT, n_eqF, nI_1, u_lt, u_le, u_eq, u_add, u_ix, u_ixL, u_ixR, u_cl, u_nm1, u_nm1', u_m1l, u_m1n, u_l0, Option.bind_some, Option.map_some, not_true_eq_false, not_false_eq_true, true_and, and_true, Nat.add_sub_cancel, Bool.false_eq_true, u_nar2]
              exact p1
            | some rs =>
              rw [hxf] at hel
              obtain ⟨F', e1, e2, e3⟩ := hel
              simp only
              refine ⟨F', ?_, e2⟩
              cases hx : (x_end R rs).1
              · rw [hx, b2_f] at e1
                simp (disch := omega) only [↓fx_bm, hm1, u_l1, u_l3, ↓cI_of e1, e3, ↓reduceIte, n_ltT, n_ltF, n_leT, n_leF, n_eqT, n_eqF, nI_1, u_lt, u_le, u_eq, u_add, u_ix, u_ixL, u_ixR, u_cl, u_nm1, u_nm1', u_m1l, u_m1n, u_l0, Option.bind_some, Option.map_some, not_true_eq_false, not_false_eq_true, true_and, and_true, Nat.add_sub_cancel, Bool.false_eq_true, u_nar2, f_M_ruleLine_j249, b2_f]
              · rw [hx, b2_t] at e1
                simp (disch := omega) only [↓fx_bm, hm1, u_l1, ↓cI_of e1, ↓reduceIte, n_ltT, n_ltF, n_leT, n_leF, n_eqT, n_eqF, nI_1, u_lt, u_le, u_eq, u_add, u_ix, u_ixL, u_ixR, u_cl, u_nm1, u_nm1', u_m1l, u_m1n, u_l0, Option.bind_some, Option.map_some, not_true_eq_false, not_false_eq_true, true_and, and_true, Nat.add_sub_cancel, Bool.false_eq_true, u_nar2, b2_t]
          · rw [if_neg (show ¬ (n = 1 ∧ W.length = 1) from fun h => hw1 h.2)]
            refine ⟨Fp, ?_, p2⟩
            have hm1 := hmw.1
            rw [if_pos (show nI n = (1 : Int32) by rw [hn2]; rfl)]
            simp (disch := omega) only [↓fx_bm, hm1, u_l1, ↓reduceIte, n_ltT, n_ltF, n_leT, n_leF, n_eqT, n_eqF, nI_1, u_lt, u_le, u_eq, u_add, u_ix, u_ixL, u_ixR, u_cl, u_nm1, u_nm1', u_m1l, u_m1n, u_l0, Option.bind_some, Option.map_some, not_true_eq_false, not_false_eq_true, true_and, and_true, Nat.add_sub_cancel, Bool.false_eq_true, u_nar2]
            exact p1
        · rw [if_neg (show ¬ (n = 1 ∧ W.length = 1) from fun h => hn2 h.1)]
          refine ⟨Fp, ?_, p2⟩
          rw [if_neg (show ¬ nI n = (1 : Int32) by rw [u_l1, u_eq (by omega) (by omega)]; exact hn2)]
          exact p1
end
