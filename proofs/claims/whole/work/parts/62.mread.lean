/-! the reference: a line -/
theorem vl_ok {gv df : Nat → Option (List Nat)} (hg : gok gv) (hd : ∀ m v, df m = some v → tk v) : vok (vl gv df) := by
  intro m
  unfold vl
  cases h : gv m with
  | some v => exact (hg m v h).2
  | none =>
    cases h2 : df m with
    | none => exact fun c hc => (by cases hc)
    | some v => exact hd m v h2
theorem wds_wok {o : List Nat} (ho : o.length ≤ 120) {c : Nat} (hc : c < o.length) : wok o (wds o c 0 c ++ wds o (o.length - (c + 1)) (c + 1) o.length) := by
  have l1 := wds_len o c 0 c
  have l2 := wds_len o (o.length - (c + 1)) (c + 1) o.length
  refine ⟨by rw [List.length_append]; omega, fun k hk => ?_⟩
  have hmem := getD_mem (d := (0, 0)) hk
  rcases List.mem_append.mp hmem with h | h
  · have := wds_in _ _ _ _ _ h
    omega
  · have := wds_in _ _ _ _ _ h
    omega
section
variable {σ : rb_St} {b : Nat} {F : fx_F} {T : List Nat} {gv : Nat → Option (List Nat)}
theorem m_ruleExp (hb : rb_b σ ≤ b) (hF : fx_ln F) {R : RS} (hR : rok R) (hE : eok R) (hl : rNu R 0 < 1000) (hm : m_rules F T R) {o : List Nat} (ho : o.length ≤ 120) (hto : tk o) (hmo : m_out F o) : ∃ F', rb_it (fun z : (Int32 × Int32 × Int32) => f_M_ruleLine_b20 (some (fx_ad b 34)) (z.1) (z.2.1) (z.2.2) (fx_mk σ b F)) ((-1 : Int32), nI 0, nI 0) = some (some (.int (nI (b2 (x_exp R o).1))), fx_mk σ b F') ∧ m_res T F F' (x_exp R o) := by
  have hstay : ∀ x : Bool × RS, x = (false, R) → m_res T F F x := by
    intro x hx
    subst hx
    exact ⟨fun h => (by cases h), hm.1, hF, fr_refl _ _ _ _⟩
  rw [m_colA (σ := σ) (b := b) ho hto hmo o.length 0 (by omega)]
  unfold x_exp
  cases hs : sr (fun k => decide (o.getD k 0 = 58)) o.length 0 with
  | none => exact ⟨F, rfl, hstay _ rfl⟩
  | some c =>
    obtain ⟨s1, s2, s3⟩ := sr_some hs
    simp only
    rw [m_colB (σ := σ) (b := b) ho hto hmo (o.length - (c + 1)) (c + 1) (by omega)]
    cases hs2 : sr (fun k => decide (o.getD k 0 = 58)) (o.length - (c + 1)) (c + 1) with
    | some c2 => exact ⟨F, rfl, hstay _ rfl⟩
    | none =>
      simp only [Option.isSome_none, Bool.false_eq_true, if_false]
      have hwo := wds_wok ho (c := c) (by omega)
      have hlen := hwo.1
      rw [List.length_append] at hlen
      have hw0 : m_words (fx_I F 3447 (nI 0)) [] := ⟨by rw [fx_I_1, if_pos rfl]; rfl, fun k hk => absurd hk (Nat.not_lt_zero _)⟩
      have hfr0 : fr [3447] [63, 64] [] F (fx_I F 3447 (nI 0)) := fr_I (fr_refl _ _ _ _) (by decide)
      obtain ⟨F1, a1, a2, a3, a4⟩ := m_split (σ := σ) (b := b) hb ho hto (q := c) (by omega) c 0 (fx_I F 3447 (nI 0)) [] (by omega) (fx_lnI hF) (m_out_fr hmo hfr0 (by decide)) hw0 (by rw [List.length_nil]; omega) (by omega)
      have hfr1 := fr_trans hfr0 a4
      rw [List.nil_append] at a2
      obtain ⟨F2, c1, c2, c3, c4⟩ := m_split (σ := σ) (b := b) hb ho hto (q := o.length) (Nat.le_refl _) (o.length - (c + 1)) (c + 1) F1 (wds o c 0 c) (by omega) a3 (m_out_fr hmo hfr1 (by decide)) a2 hlen (by omega)
      have hfr2 := fr_trans hfr1 c4
      have a1' : f_M_split (some (fx_ad b 34)) (0 : Int32) (nI c) (fx_mk σ b (fx_I F 3447 (0 : Int32))) = some (none, fx_mk σ b F1) := a1
      have hmo1 := m_out_fr hmo hfr1 (by decide)
      have c1' : f_M_split (some (fx_ad b 34)) (nI c + (1 : Int32)) (F1.1 3444) (fx_mk σ b F1) = some (none, fx_mk σ b F2) := by
        rw [u_l1, u_add, hmo1.1]
        exact c1
      have hmo2 := m_out_fr hmo hfr2 (by decide)
      generalize hW : wds o c 0 c ++ wds o (o.length - (c + 1)) (c + 1) o.length = W at *
      generalize hn : (wds o c 0 c).length = n at *
      have hnW : n ≤ W.length := by
        rw [← hW, List.length_append]
        omega
      have hw60 := hwo.1
      by_cases h0 : n = 0
      · rw [if_pos h0]
        refine ⟨F2, ?_, ⟨fun h => (by cases h), m_names_fr hm.1 hfr2 (by decide), c3, fr_mono hfr2 (by decide) (by decide) (by decide)⟩⟩
        refine rb_it_r ?_
        show f_M_ruleLine_b20 _ _ _ _ _ = _
        unfold f_M_ruleLine_b20
        have a21 := a2.1
        rw [hn, h0] at a21
        simp (disch := omega) only [↓fx_bm, ↓fx_vm hb, hmo.1, hmo1.1, ↓cV_of a1', ↓cV_of c1', a21, u_l1, ↓reduceIte, n_ltT, n_ltF, n_leT, n_leF, n_eqT, n_eqF, nI_1, u_lt, u_le, u_eq, u_add, u_ix, u_ixL, u_ixR, u_cl, u_nm1, u_nm1', u_m1l, u_m1n, u_l0, Option.bind_some, Option.map_some, not_true_eq_false, not_false_eq_true, true_and, and_true, Nat.add_sub_cancel, Bool.false_eq_true, u_nar2, b2_f]
      · rw [if_neg h0]
        obtain ⟨g1, g2, g3, g4, g5, g6, g7, g8, g9, g10, g11, g12⟩ := hm
        generalize hF3 : fx_I (fx_I F2 3439 (nI (rNu R 0 + 1))) 3440 (nI 1) = F3
        have hfr3 : fr [3439, 3440, 3447] [63, 64] [] F F3 := by
          refine fr_trans (fr_mono hfr2 (by decide) (by decide) (by decide)) ?_
          subst hF3
          exact fr_I (fr_I (fr_refl _ _ _ _) (by decide)) (by decide)
        have hln3 : fx_ln F3 := by
          subst hF3
          exact fx_lnI (fx_lnI c3)
        have hmw3 : m_words F3 W := by
          subst hF3
          exact c2
        have q1 : F3.1 3439 = nI (rNu R 0 + 1) := by
          subst hF3
          simp only [fx_II, fx_AA, fx_LL, fx_I_1, fx_I_A, fx_I_L, fx_I_R, fx_I_Q, fx_A_1, fx_A_A, fx_A_L, fx_A_R, fx_A_Q, fx_L_1, fx_L_A, fx_L_L, fx_L_R, fx_L_Q, fx_R_1, fx_R_A, fx_R_L, fx_R_R, fx_R_Q, fx_Q_1, fx_Q_A, fx_Q_L, fx_Q_R, fx_Q_Q, Bool.false_eq_true, Option.bind_some, Option.map_some, rb_cI, rb_cL, rb_cR, rb_cV, reduceIte, ite_true, ite_false, not_true_eq_false, not_false_eq_true, true_and, and_true, Nat.reduceEqDiff, Nat.reduceAdd, Nat.reduceMul, Nat.add_sub_cancel]
        have q2 : F3.1 3440 = nI 1 := by
          subst hF3
          simp only [fx_II, fx_AA, fx_LL, fx_I_1, fx_I_A, fx_I_L, fx_I_R, fx_I_Q, fx_A_1, fx_A_A, fx_A_L, fx_A_R, fx_A_Q, fx_L_1, fx_L_A, fx_L_L, fx_L_R, fx_L_Q, fx_R_1, fx_R_A, fx_R_L, fx_R_R, fx_R_Q, fx_Q_1, fx_Q_A, fx_Q_L, fx_Q_R, fx_Q_Q, Bool.false_eq_true, Option.bind_some, Option.map_some, rb_cI, rb_cL, rb_cR, rb_cV, reduceIte, ite_true, ite_false, not_true_eq_false, not_false_eq_true, true_and, and_true, Nat.reduceEqDiff, Nat.reduceAdd, Nat.reduceMul, Nat.add_sub_cancel]
        have hline : F2.1 3439 = nI (rNu R 0) := (hfr2.1 3439 (by decide)).trans g11.1
        have hk1 : rNu (wNu R (up1 (up1 (rNu R) 0 (rNu R 0 + 1)) 1 1)) 1 = 1 := (rfl)
        have hm3 : m_rules F3 T (wNu R (up1 (up1 (rNu R) 0 (rNu R 0 + 1)) 1 1)) := by
          refine ⟨m_names_fr g1 hfr3 (by decide), m_sf_fr g2 hfr3 (by decide), m_en_fr g3 hfr3 (by decide), m_cm_fr g4 hfr3 (by decide), m_pr_fr g5 hfr3 (by decide), m_defd_fr g6 hfr3 (by decide), m_ow_fr g7 hfr3 (by decide), m_fl_fr g8 hfr3 (by decide), m_op_fr g9 hfr3 (by decide), m_bo_fr g10 hfr3 (by decide), ⟨?_, ?_⟩, ⟨fun h => ?_, fun h => ?_⟩⟩
          · exact q1
          · exact q2
          · exact absurd (hk1.symm.trans h) (by decide)
          · exact absurd (hk1.symm.trans h) (by decide)
        have hmo3 := m_out_fr hmo hfr3 (by decide)
        obtain ⟨F', e1, e2⟩ := m_byWords (σ := σ) (b := b) hb hln3 (rok_line hR hl) hE hm3 hk1 ho hto hwo (by omega) hnW hmo3 hmw3 (only := if n = 1 then (wl o W).getD 0 [] else []) rfl
        replace e1 : f_M_ruleLine_j150 (some (fx_ad b 34)) (nI n) (pk (if n = 1 then (wl o W).getD 0 [] else [])) (fx_mk σ b F3) = some (some (.int (nI (b2 (x_rule R n (wl o W)).1))), fx_mk σ b F') := e1
        replace e2 : m_res T F3 F' (x_rule R n (wl o W)) := e2
        generalize x_rule R n (wl o W) = X at e1 e2 ⊢
        refine ⟨F', ?_, m_res_fr (fr_mono hfr3 (by decide) (by decide) (by decide)) e2⟩
        refine rb_it_r ?_
        show f_M_ruleLine_b20 _ _ _ _ _ = _
        have a21 := a2.1
        rw [hn] at a21
        by_cases hn1 : n = 1
        · rw [if_pos hn1, wl_get (by omega)] at e1
          have hword := m_word (F := F3) (σ := σ) (b := b) ho hto hmo3 hwo hmw3 (k := 0) (by omega)
          have hq : fx_I (fx_I F2 3439 (F2.1 3439 + (1 : Int32))) 3440 (1 : Int32) = F3 := by
            rw [← hF3, hline, u_l1, u_add]
          have hword' : f_M_word (some (fx_ad b 34)) (0 : Int32) (fx_mk σ b (fx_I (fx_I F2 3439 (F2.1 3439 + (1 : Int32))) 3440 (1 : Int32))) = some (some (.long (pk (wd o W 0))), fx_mk σ b F3) := by
            rw [hq]
            exact hword
          subst hF3
          unfold f_M_ruleLine_b20
          simp (disch := omega) only [↓fx_bm, ↓fx_vm hb, hmo.1, hmo1.1, ↓cV_of a1', ↓cV_of c1', a21, hline, u_l1, ↓reduceIte, n_ltT, n_ltF, n_leT, n_leF, n_eqT, n_eqF, nI_1, u_lt, u_le, u_eq, u_add, u_ix, u_ixL, u_ixR, u_cl, u_nm1, u_nm1', u_m1l, u_m1n, u_l0, Option.bind_some, Option.map_some, not_true_eq_false, not_false_eq_true, true_and, and_true, Nat.add_sub_cancel, Bool.false_eq_true, u_nar2, ↓cL_of hword', fx_II, fx_AA, fx_LL, fx_I_1, fx_I_A, fx_I_L, fx_I_R, fx_I_Q, fx_A_1, fx_A_A, fx_A_L, fx_A_R, fx_A_Q, fx_L_1, fx_L_A, fx_L_L, fx_L_R, fx_L_Q, fx_R_1, fx_R_A, fx_R_L, fx_R_R, fx_R_Q, fx_Q_1, fx_Q_A, fx_Q_L, fx_Q_R, fx_Q_Q, Nat.reduceEqDiff, e1]
        · rw [if_neg hn1] at e1
          subst hF3
          unfold f_M_ruleLine_b20
          simp (disch := omega) only [↓fx_bm, ↓fx_vm hb, hmo.1, hmo1.1, ↓cV_of a1', ↓cV_of c1', a21, hline, u_l1, ↓reduceIte, n_ltT, n_ltF, n_leT, n_leF, n_eqT, n_eqF, nI_1, u_lt, u_le, u_eq, u_add, u_ix, u_ixL, u_ixR, u_cl, u_nm1, u_nm1', u_m1l, u_m1n, u_l0, Option.bind_some, Option.map_some, not_true_eq_false, not_false_eq_true, true_and, and_true, Nat.add_sub_cancel, Bool.false_eq_true, u_nar2, fx_II, fx_AA, fx_LL, fx_I_1, fx_I_A, fx_I_L, fx_I_R, fx_I_Q, fx_A_1, fx_A_A, fx_A_L, fx_A_R, fx_A_Q, fx_L_1, fx_L_A, fx_L_L, fx_L_R, fx_L_Q, fx_R_1, fx_R_A, fx_R_L, fx_R_R, fx_R_Q, fx_Q_1, fx_Q_A, fx_Q_L, fx_Q_R, fx_Q_Q, Nat.reduceEqDiff, show (0 : Int64) = pk [] from rfl, e1]
theorem m_ruleLine (hb : rb_b σ ≤ b) (hF : fx_ln F) {R : RS} (hR : rok R) (hE : eok R) (hl : rNu R 0 < 1000) (hm : m_rules F T R) (hT : m_text F T) (hT3 : T.length ≤ 320) (hTk : tk T) (hg : m_given F gv) (hgo : gok gv) {p q : Nat} (hpq : p ≤ q) (hq : q ≤ T.length) : ∃ F', f_M_ruleLine (some (fx_ad b 34)) (nI p) (nI q) (fx_mk σ b F) = some (some (.int (nI (b2 (x_ruleT gv R (slc T p q)).1))), fx_mk σ b F') ∧ m_res T F F' (x_ruleT gv R (slc T p q)) := by
  have hvk : vok (vl gv (rDf R)) := vl_ok hgo (fun m v h => (hR.2.2.2.2.2.1 m v h).1)
  have hak : aok (fun _ : Nat => (none : Option (List Nat))) := fun d l h => (by cases h)
  obtain ⟨F1, a1, a2, a3, a4⟩ := m_expand (σ := σ) (b := b) (x := (0 : Int32)) (A := fun _ => none) hb (Or.inl ⟨rfl, fun _ => rfl⟩) hak hvk hF ⟨hT, hT3, hTk, hg, hgo, hm.2.2.2.2.2.1⟩ hpq hq
  have hfrR : fr zRi zRa zRl F F1 := fr_mono a4 (by decide) (by decide) (by decide)
  have hm1 : m_rules F1 T R := m_rules_fr hm a4 (by decide) (by decide) (by decide)
  unfold x_ruleT
  cases hx : xr (fun _ => none) (vl gv (rDf R)) (slc T p q) with
  | none =>
    rw [hx] at a1
    refine ⟨F1, ?_, ⟨fun h => (by cases h), hm1.1, a3, hfrR⟩⟩
    unfold f_M_ruleLine
    simp (disch := omega) only [↓fx_bm, ↓cI_of a1, ↓reduceIte, n_ltT, n_ltF, n_leT, n_leF, n_eqT, n_eqF, nI_1, u_lt, u_le, u_eq, u_add, u_ix, u_ixL, u_ixR, u_cl, u_nm1, u_nm1', u_m1l, u_m1n, u_l0, Option.bind_some, Option.map_some, not_true_eq_false, not_false_eq_true, true_and, and_true, Nat.add_sub_cancel, Bool.false_eq_true, u_nar2, b2_f]
  | some o =>
    rw [hx] at a1
    have hmo := a2 o hx
    have ho := xr_len hx
    have hto := xr_tk hak hvk (slc_tk hTk p q) hx
    obtain ⟨F', e1, e2⟩ := m_ruleExp (σ := σ) (b := b) (T := T) hb a3 hR hE hl hm1 ho hto hmo
    refine ⟨F', ?_, m_res_fr hfrR e2⟩
    unfold f_M_ruleLine
    simp only at a1
    simp (disch := omega) only [↓fx_bm, ↓cI_of a1, ↓reduceIte, n_ltT, n_ltF, n_leT, n_leF, n_eqT, n_eqF, nI_1, u_lt, u_le, u_eq, u_add, u_ix, u_ixL, u_ixR, u_cl, u_nm1, u_nm1', u_m1l, u_m1n, u_l0, Option.bind_some, Option.map_some, not_true_eq_false, not_false_eq_true, true_and, and_true, Nat.add_sub_cancel, Bool.false_eq_true, u_nar2]
    exact e1
theorem m_readBack (hT : m_text F T) (hT3 : T.length ≤ 320) (hTk : tk T) {fm to p : Nat} (hto : to ≤ T.length) : ∀ (e : Nat), p ≤ e → fm + e ≤ to → rb_it (fun z : (Int32) => f_M_readLine_b76 (some (fx_ad b 34)) (z) (nI (fm + p)) (fx_mk σ b F)) (nI (fm + e)) = f_M_readLine_j101 (some (fx_ad b 34)) (nI (fm + bk (slc T fm to) p e)) (nI (fm + p)) (fx_mk σ b F) := by
  intro e
  induction e with
  | zero =>
    intro hp he
    refine rb_it_m ?_
    show f_M_readLine_b76 _ _ _ _ = _
    unfold f_M_readLine_b76 bk
    simp (disch := omega) only [↓reduceIte, n_ltT, n_ltF, n_leT, n_leF, n_eqT, n_eqF, nI_1, u_lt, u_le, u_eq, u_add, u_ix, u_ixL, u_ixR, u_cl, u_nm1, u_nm1', u_m1l, u_m1n, u_l0, Option.bind_some, Option.map_some, not_true_eq_false, not_false_eq_true, true_and, and_true, Nat.add_sub_cancel, Bool.false_eq_true, u_nar2]
  | succ e ih =>
    intro hp he
    have hg := rk_getD hT (i := fm + e) (by omega)
    have hty := ty_lt (tk_get hTk (k := fm + e) (by omega))
    have hs : (slc T fm to).getD e 0 = T.getD (fm + e) 0 := slc_get (by omega)
    unfold bk
    rw [hs]
    by_cases c : p < e + 1
    · by_cases c2 : T.getD (fm + e) 0 = 32
      · rw [if_pos ⟨c, c2⟩, ← ih (by omega) (by omega)]
        refine rb_it_l ?_
        show f_M_readLine_b76 _ _ _ _ = _
        unfold f_M_readLine_b76
        simp (disch := omega) only [↓fx_bm, ↓bx_of (show nI (fm + (e + 1)) - 1 = nI (fm + e) by rw [u_l1, u_sub (by omega)]; rfl) (show fm + e < 2147483648 by omega) hg, c2, show (32 : Int32) = nI 32 from rfl, ← Nat.add_assoc, u_b1, ↓reduceIte, n_ltT, n_ltF, n_leT, n_leF, n_eqT, n_eqF, nI_1, u_lt, u_le, u_eq, u_add, u_ix, u_ixL, u_ixR, u_cl, u_nm1, u_nm1', u_m1l, u_m1n, u_l0, Option.bind_some, Option.map_some, not_true_eq_false, not_false_eq_true, true_and, and_true, Nat.add_sub_cancel, Bool.false_eq_true, u_nar2]
      · rw [if_neg (fun h => c2 h.2)]
        refine rb_it_m ?_
        show f_M_readLine_b76 _ _ _ _ = _
        unfold f_M_readLine_b76
        simp (disch := omega) only [↓fx_bm, ↓bx_of (show nI (fm + (e + 1)) - 1 = nI (fm + e) by rw [u_l1, u_sub (by omega)]; rfl) (show fm + e < 2147483648 by omega) hg, c2, show (32 : Int32) = nI 32 from rfl, ↓reduceIte, n_ltT, n_ltF, n_leT, n_leF, n_eqT, n_eqF, nI_1, u_lt, u_le, u_eq, u_add, u_ix, u_ixL, u_ixR, u_cl, u_nm1, u_nm1', u_m1l, u_m1n, u_l0, Option.bind_some, Option.map_some, not_true_eq_false, not_false_eq_true, true_and, and_true, Nat.add_sub_cancel, Bool.false_eq_true, u_nar2]
    · rw [if_neg (fun h => c h.1)]
      refine rb_it_m ?_
      show f_M_readLine_b76 _ _ _ _ = _
      unfold f_M_readLine_b76
      simp (disch := omega) only [↓reduceIte, n_ltT, n_ltF, n_leT, n_leF, n_eqT, n_eqF, nI_1, u_lt, u_le, u_eq, u_add, u_ix, u_ixL, u_ixR, u_cl, u_nm1, u_nm1', u_m1l, u_m1n, u_l0, Option.bind_some, Option.map_some, not_true_eq_false, not_false_eq_true, true_and, and_true, Nat.add_sub_cancel, Bool.false_eq_true, u_nar2]
theorem bk_le (t : List Nat) (p : Nat) : ∀ e, bk t p e ≤ e ∧ (p ≤ e → p ≤ bk t p e)
  | 0 => ⟨Nat.le_refl _, fun h => h⟩
  | e + 1 => by
    have := bk_le t p e
    unfold bk
    split
    · rename_i h
      exact ⟨by omega, fun _ => this.2 (by omega)⟩
    · exact ⟨Nat.le_refl _, fun h => h⟩
end
