/-! the reference: load -/
theorem neg_1 (n : Nat) : -(nI n) - nI 1 = -(nI (n + 1)) := by
  apply Int32.toBitVec_inj.mp
  rw [Int32.toBitVec_sub, Int32.toBitVec_neg, Int32.toBitVec_neg]
  show -(BitVec.ofNat 32 n) - BitVec.ofNat 32 1 = -(BitVec.ofNat 32 (n + 1))
  rw [BitVec.ofNat_add, BitVec.neg_add, BitVec.sub_eq_add_neg]
section
variable {σ : rb_St} {b : Nat} {F : fx_F} {T : List Nat} {gv : Nat → Option (List Nat)}
abbrev zLi : List Nat := [3401, 3402, 3416, 3418, 3422, 3423, 3426, 3429, 3433, 3437, 3438, 3439, 3440, 3441, 3442, 3444, 3447, 3448]
abbrev zLa : List Nat := [43, 44, 45, 46, 47, 49, 50, 51, 52, 53, 54, 55, 56, 57, 58, 61, 62, 63, 64, 65, 66, 67, 68, 69, 70, 71, 72]
theorem m_loadLoop (hb : rb_b σ ≤ b) {T C : List Nat} (hT3 : T.length ≤ 320) (hTk : tk T) (hgo : gok gv) : ∀ (m fm n : Nat) (J : List (Nat × Nat)) (F : fx_F) (R : RS), J.length + 1 ≤ m → fm ≤ T.length → T.drop fm = J.map Prod.fst → C.drop fm = cnt n J → fx_ln F → m_text F T → F.1 3416 = nI T.length → rk (F.2.1 47) C → m_given F gv → rin R → rNu R 0 ≤ fm → m_rules F T R → ∃ F', rb_it (fun z : (Int32 × rb_St) => f_M_load_b31 (some (fx_ad b 34)) (z.1) z.2) (nI fm, fx_mk σ b F) = some (some (.int (x_read gv J [] n (n + 1) R).1), fx_mk σ b F') ∧ m_rules F' T (x_read gv J [] n (n + 1) R).2 ∧ rin (x_read gv J [] n (n + 1) R).2 ∧ fx_ln F' ∧ fr zRi zRa zRl F F' := by
  intro m
  induction m with
  | zero =>
    intro fm n J F R hJm
    omega
  | succ m ih =>
    intro fm n J F R hJm hfm hdr hcn hF hT hsz h47 hg hin hl hm
    have hJl : J.length = T.length - fm := by
      rw [← List.length_map (f := Prod.fst), ← hdr, List.length_drop]
    have hat : ∀ k, k < J.length → T.getD (fm + k) 0 = (J.getD k (0, 0)).1 := by
      intro k hk
      rw [← drop_getD, hdr, List.getD_eq_getElem?_getD, List.getElem?_map, List.getElem?_eq_getElem hk, getD_get hk]
      rfl
    -- the line's end
    have hfq : fi (fun k => decide (T.getD k 0 = 10)) T.length fm = fm + fi (fun k => decide ((J.getD k (0, 0)).1 = 10)) J.length 0 := by
      have := fi_shift (fun k => decide (T.getD k 0 = 10)) (q := fm) (e := T.length) (k := 0) hfm
      rw [Nat.add_zero] at this
      rw [this, hJl]
      congr 1
      refine fi_congr (fun j h1 h2 => ?_)
      rw [hat j (by omega)]
    have hq := (fi_le (P := fun k => decide ((J.getD k (0, 0)).1 = 10)) (n := J.length) (k := 0) (by omega)).2
    have hqP := @fi_P (fun k => decide ((J.getD k (0, 0)).1 = 10)) J.length 0
    have hqno : ∀ k, k < fi (fun k => decide ((J.getD k (0, 0)).1 = 10)) J.length 0 → ¬ (J.getD k (0, 0)).1 = 10 := fun k hk h => by
      have := fi_no (P := fun k => decide ((J.getD k (0, 0)).1 = 10)) (n := J.length) (k := 0) (j := k) (Nat.zero_le _) hk (by omega)
      rw [decide_eq_true h] at this
      cases this
    generalize fi (fun k => decide ((J.getD k (0, 0)).1 = 10)) J.length 0 = q at hfq hq hqP hqno
    have hseg := x_read_seg gv q J [] n (n + 1) R hq hqno
    rw [List.nil_append] at hseg
    have hcd := cnt_drop q J n hq
    have hline : slc T fm (fm + q) = (J.take q).map Prod.fst := by
      unfold slc
      rw [hdr, Nat.add_sub_cancel_left, List.map_take]
    rw [hseg, ← hline]
    have hln := slc_len (l := T) (p := fm) (q := fm + q) (by omega)
    obtain ⟨F1, a1, a2⟩ := m_readLine (σ := σ) (b := b) hb hF hin.1 hin.2.1 (by omega) hm hT hT3 hTk hg hgo (fm := fm) (to := fm + q) (by omega) (by omega)
    obtain ⟨a2, a3, a4, a5⟩ := a2
    have hin1 := x_line_in (gv := gv) hin (by omega) (slc_tk hTk fm (fm + q)) (by omega)
    have hbody : f_M_load_b31 (some (fx_ad b 34)) (nI fm) (fx_mk σ b F) = f_M_load_j66 (some (fx_ad b 34)) (nI fm) (nI (fm + q)) (fx_mk σ b F) := by
      unfold f_M_load_b31
      simp (disch := omega) only [↓fx_bm, hsz, ↓reduceIte, n_ltT, n_ltF, n_leT, n_leF, n_eqT, n_eqF, nI_1, u_lt, u_le, u_eq, u_add, u_ix, u_ixL, u_ixR, u_cl, u_nm1, u_nm1', u_m1l, u_m1n, u_l0, Option.bind_some, Option.map_some, not_true_eq_false, not_false_eq_true, true_and, and_true, Nat.add_sub_cancel, Bool.false_eq_true, u_nar2]
      rw [← hfq]
      refine it_fim (n := T.length) (fun k => decide (T.getD k 0 = 10)) (fun k => f_M_load_j66 (some (fx_ad b 34)) (nI fm) (nI k) (fx_mk σ b F)) ?_ ?_ hfm
      · intro k hk
        have hgk := rk_getD hT (i := k) (by omega)
        have htk := ty_lt (tk_get hTk (k := k) (by omega))
        unfold f_M_load_b41
        by_cases ek : T.getD k 0 = 10
        · simp (disch := omega) only [↓fx_bm, hsz, ↓bx_of rfl (show k < 2147483648 by omega) hgk, ek, u_l10, decide_true, ↓reduceIte, n_ltT, n_ltF, n_leT, n_leF, n_eqT, n_eqF, nI_1, u_lt, u_le, u_eq, u_add, u_ix, u_ixL, u_ixR, u_cl, u_nm1, u_nm1', u_m1l, u_m1n, u_l0, Option.bind_some, Option.map_some, not_true_eq_false, not_false_eq_true, true_and, and_true, Nat.add_sub_cancel, Bool.false_eq_true, u_nar2]
        · simp (disch := omega) only [↓fx_bm, hsz, ↓bx_of rfl (show k < 2147483648 by omega) hgk, ek, u_l10, decide_false, ↓reduceIte, n_ltT, n_ltF, n_leT, n_leF, n_eqT, n_eqF, nI_1, u_lt, u_le, u_eq, u_add, u_ix, u_ixL, u_ixR, u_cl, u_nm1, u_nm1', u_m1l, u_m1n, u_l0, Option.bind_some, Option.map_some, not_true_eq_false, not_false_eq_true, true_and, and_true, Nat.add_sub_cancel, Bool.false_eq_true, u_nar2]
      · unfold f_M_load_b41
        simp (disch := omega) only [↓fx_bm, hsz, ↓reduceIte, n_ltT, n_ltF, n_leT, n_leF, n_eqT, n_eqF, nI_1, u_lt, u_le, u_eq, u_add, u_ix, u_ixL, u_ixR, u_cl, u_nm1, u_nm1', u_m1l, u_m1n, u_l0, Option.bind_some, Option.map_some, not_true_eq_false, not_false_eq_true, true_and, and_true, Nat.add_sub_cancel, Bool.false_eq_true, u_nar2]
    have hCl : C.length = T.length + 1 := by
      have h1 := cnt_len J n
      rw [← hcn, List.length_drop] at h1
      omega
    have hCn : C.getD fm 0 = n := by
      have := cnt_0 J n
      rw [← hcn, drop_getD, Nat.add_zero] at this
      exact this
    generalize hX : x_line gv R (slc T fm (fm + q)) = X at a1 a2 a3 hin1
    obtain ⟨ok, R1⟩ := X
    cases ok with
    | false =>
      simp only at a1 a2 a3 hin1
      rw [b2_f] at a1
      obtain ⟨F2, c1, c2, c3, c4⟩ := m_forget (σ := σ) (b := b) (T := T) hb a4 a3
      have hres : x_read gv (J.drop q) (slc T fm (fm + q)) (n + smJ (J.take q)) (n + 1) R = (-(nI (n + 1)), r0 (rN R1)) := by
        cases hJq : J.drop q with
        | nil =>
          rw [x_read, hX, if_neg (by simp)]
        | cons x J' =>
          obtain ⟨cc, kk⟩ := x
          have hlt : q < J.length := by
            have : (J.drop q).length = J'.length + 1 := by rw [hJq]; rfl
            rw [List.length_drop] at this
            omega
          have hc10 : cc = 10 := by
            have h1 := of_decide_eq_true (hqP hlt)
            rw [List.drop_eq_getElem_cons hlt] at hJq
            injection hJq with hJq _
            rw [getD_get hlt, hJq] at h1
            exact h1
          rw [x_read, if_pos hc10, hX, if_neg (by simp)]
      rw [hres]
      have h472 : (F2.2.1 47)[fm]? = some (nI n) := by
        rw [c4.2.1 47 (by decide), a5.2.1 47 (by decide), rk_getD h47 (i := fm) (by omega), hCn]
      refine ⟨F2, ?_, c2, r0_in hin1.1.1.1, c3, fr_trans a5 (fr_mono c4 (by decide) (by decide) (by decide))⟩
      refine rb_it_r ?_
      show f_M_load_b31 _ _ _ = _
      rw [hbody]
      unfold f_M_load_j66
      simp (disch := omega) only [↓fx_bm, ↓cI_of a1, ↓cV_of c1, ↓bx_of rfl (show fm < 2147483648 by omega) h472, ↓reduceIte, n_ltT, n_ltF, n_leT, n_leF, n_eqT, n_eqF, nI_1, u_lt, u_le, u_eq, u_add, u_ix, u_ixL, u_ixR, u_cl, u_nm1, u_nm1', u_m1l, u_m1n, u_l0, Option.bind_some, Option.map_some, not_true_eq_false, not_false_eq_true, true_and, and_true, Nat.add_sub_cancel, Bool.false_eq_true, u_nar2, u_l1, neg_1]
    | true =>
      simp only at a1 a2 a3 hin1
      rw [b2_t] at a1
      have hm1 := a2 trivial
      have hstep : f_M_load_b31 (some (fx_ad b 34)) (nI fm) (fx_mk σ b F) = some (.inl (nI (fm + q + 1), fx_mk σ b F1)) := by
        rw [hbody]
        unfold f_M_load_j66
        simp (disch := omega) only [↓fx_bm, ↓cI_of a1, ↓reduceIte, n_ltT, n_ltF, n_leT, n_leF, n_eqT, n_eqF, nI_1, u_lt, u_le, u_eq, u_add, u_ix, u_ixL, u_ixR, u_cl, u_nm1, u_nm1', u_m1l, u_m1n, u_l0, Option.bind_some, Option.map_some, not_true_eq_false, not_false_eq_true, true_and, and_true, Nat.add_sub_cancel, Bool.false_eq_true, u_nar2]
      have hsz1 : F1.1 3416 = nI T.length := (a5.1 3416 (by decide)).trans hsz
      cases hJq : J.drop q with
      | nil =>
        have hqe : q = J.length := by
          have : (J.drop q).length = 0 := by rw [hJq]; rfl
          rw [List.length_drop] at this
          omega
        have hres : x_read gv [] (slc T fm (fm + q)) (n + smJ (J.take q)) (n + 1) R = (nI 0, R1) := by
          rw [x_read, hX, if_pos rfl]
        rw [hres]
        refine ⟨F1, ?_, hm1, hin1.1, a4, a5⟩
        refine (rb_it_l hstep).trans ?_
        refine rb_it_r ?_
        show f_M_load_b31 _ _ _ = _
        unfold f_M_load_b31
        simp (disch := omega) only [↓fx_bm, hsz1, ↓reduceIte, n_ltT, n_ltF, n_leT, n_leF, n_eqT, n_eqF, nI_1, u_lt, u_le, u_eq, u_add, u_ix, u_ixL, u_ixR, u_cl, u_nm1, u_nm1', u_m1l, u_m1n, u_l0, Option.bind_some, Option.map_some, not_true_eq_false, not_false_eq_true, true_and, and_true, Nat.add_sub_cancel, Bool.false_eq_true, u_nar2]
      | cons x J' =>
        obtain ⟨cc, kk⟩ := x
        have hlt : q < J.length := by
          have : (J.drop q).length = J'.length + 1 := by rw [hJq]; rfl
          rw [List.length_drop] at this
          omega
        have hJl2 : J'.length + 1 = J.length - q := by
          have : (J.drop q).length = J'.length + 1 := by rw [hJq]; rfl
          rw [List.length_drop] at this
          omega
        have hc10 : cc = 10 := by
          have h1 := of_decide_eq_true (hqP hlt)
          have hJq' := hJq
          rw [List.drop_eq_getElem_cons hlt] at hJq'
          injection hJq' with hJq' _
          rw [getD_get hlt, hJq'] at h1
          exact h1
        have hres : x_read gv ((cc, kk) :: J') (slc T fm (fm + q)) (n + smJ (J.take q)) (n + 1) R = x_read gv J' [] (n + smJ (J.take q) + kk) (n + smJ (J.take q) + kk + 1) R1 := by
          rw [x_read, if_pos hc10, hX, if_pos rfl]
        rw [hres]
        have hd1 : T.drop (fm + q + 1) = J'.map Prod.fst := by
          have : (T.drop fm).drop (q + 1) = (J.map Prod.fst).drop (q + 1) := by rw [hdr]
          rw [List.drop_drop] at this
          refine Eq.trans this ?_
          rw [← List.map_drop, ← List.drop_drop, hJq]
          rfl
        have hc1 : C.drop (fm + q + 1) = cnt (n + smJ (J.take q) + kk) J' := by
          have : (C.drop fm).drop (q + 1) = (cnt n J).drop (q + 1) := by rw [hcn]
          rw [List.drop_drop] at this
          refine Eq.trans this ?_
          rw [← List.drop_drop, hcd, hJq, cnt_c]
          rfl
        obtain ⟨F', e1, e2, e3, e4, e5⟩ := ih (fm + q + 1) (n + smJ (J.take q) + kk) J' F1 R1 (by omega) (by omega) hd1 hc1 a4 (m_text_fr hT a5 (by decide)) hsz1 ((a5.2.1 47 (by decide)).symm ▸ h47) (m_given_fr hg a5 (by decide)) hin1.1 (by omega) hm1
        refine ⟨F', ?_, e2, e3, e4, fr_trans a5 e5⟩
        rw [← e1]
        exact rb_it_l hstep
theorem m_fates0 (hb : rb_b σ ≤ b) : ∀ (m k : Nat) (F : fx_F), k + m = 32 → fx_ln F → (∀ j, j < k → (F.2.1 72)[j]? = some (nI 0)) → ∃ F', rb_it (fun z : (Int32 × rb_St) => f_M_load_b10 (some (fx_ad b 34)) (z.1) z.2) (nI k, fx_mk σ b F) = rb_it (fun z : (Int32 × rb_St) => f_M_load_b31 (some (fx_ad b 34)) (z.1) z.2) (nI 0, fx_mk σ b F') ∧ m_fates F' (fun _ => 0) ∧ fx_ln F' ∧ fr [] [72] [] F F' := by
  intro m
  induction m with
  | zero =>
    intro k F hk hF h
    refine ⟨F, ?_, fun j hj => h j (by omega), hF, fr_refl _ _ _ _⟩
    refine rb_it_m ?_
    show f_M_load_b10 _ _ _ = _
    unfold f_M_load_b10
    simp (disch := omega) only [u_l32, ↓reduceIte, n_ltT, n_ltF, n_leT, n_leF, n_eqT, n_eqF, nI_1, u_lt, u_le, u_eq, u_add, u_ix, u_ixL, u_ixR, u_cl, u_nm1, u_nm1', u_m1l, u_m1n, u_l0, Option.bind_some, Option.map_some, not_true_eq_false, not_false_eq_true, true_and, and_true, Nat.add_sub_cancel, Bool.false_eq_true, u_nar2]
  | succ m ih =>
    intro k F hk hF h
    have h72 := hF.1 72
    simp only [fx_cI] at h72
    obtain ⟨F', e1, e2, e3, e4⟩ := ih (k + 1) (fx_A F 72 ((F.2.1 72).set k (nI 0))) (by omega) (fx_lnA hF (by rw [List.length_set]; exact hF.1 _)) (fun j hj => by
      rw [fx_A_A, if_pos rfl, set_get (by omega)]
      by_cases e : j = k
      · rw [if_pos e]
      · rw [if_neg e]
        exact h j (by omega))
    refine ⟨F', ?_, e2, e3, fr_trans (fr_A (fr_refl _ _ _ _) (by decide)) e4⟩
    rw [← e1]
    refine rb_it_l ?_
    show f_M_load_b10 _ _ _ = _
    unfold f_M_load_b10
    simp (disch := omega) only [u_l32, ↓fx_bm, ↓fx_vm hb, ↓reduceIte, n_ltT, n_ltF, n_leT, n_leF, n_eqT, n_eqF, nI_1, u_lt, u_le, u_eq, u_add, u_ix, u_ixL, u_ixR, u_cl, u_nm1, u_nm1', u_m1l, u_m1n, u_l0, Option.bind_some, Option.map_some, not_true_eq_false, not_false_eq_true, true_and, and_true, Nat.add_sub_cancel, Bool.false_eq_true, u_nar2]
theorem m_load (hb : rb_b σ ≤ b) (hF : fx_ln F) {N : List (List Nat)} (hN : nok N) (hm : m_names F N) {d : List Nat} (hd : d.length ≤ 320) (htk : tk d) (hdr : m_draft F d) (hg : m_given F gv) (hgo : gok gv) : ∃ F', f_M_load (some (fx_ad b 34)) (fx_mk σ b F) = some (some (.int (x_load gv N d).1), fx_mk σ b F') ∧ m_rules F' ((tkn d).map Prod.fst) (x_load gv N d).2 ∧ rin (x_load gv N d).2 ∧ m_text F' ((tkn d).map Prod.fst) ∧ m_draft F' [] ∧ m_fates F' (fun _ => 0) ∧ fx_ln F' ∧ fr zLi zLa zRl F F' := by
  have hlen := tkn_len d.length d (Nat.le_refl _)
  obtain ⟨F1, a1, a2, a3, a4⟩ := m_forget (σ := σ) (b := b) (T := (tkn d).map Prod.fst) hb hF hm
  have hfr2 : fr [3416] [] [] F1 (fx_I F1 3416 (nI 0)) := fr_I (fr_refl _ _ _ _) (by decide)
  obtain ⟨F2, c1, c2, c3, c4, c5, c6, c7⟩ := m_copyLoop (σ := σ) (b := b) hb hd htk d.length 0 (fx_I F1 3416 (nI 0)) [] [] 0 (by omega) (by omega) (Nat.le_refl _) rfl (by omega) (fx_lnI a3) (m_draft_fr (m_draft_fr hdr a4 (by decide)) hfr2 (by decide)) (by rw [fx_I_1, if_pos rfl]; rfl) (rk_nil _) (rk_nil _)
  rw [List.drop_zero] at c2 c3 c4
  rw [List.nil_append] at c2 c3
  have hfr12 : fr [3401, 3416] [46, 47] [] F1 F2 := fr_trans (fr_mono hfr2 (by decide) (by decide) (by decide)) c7
  obtain ⟨F3, e1, e2, e3, e4⟩ := m_fates0 (σ := σ) (b := b) hb 32 0 F2 (by omega) c6 (fun j hj => by omega)
  have hfr13 : fr [3401, 3416] [46, 47, 72] [] F1 F3 := fr_trans (fr_mono hfr12 (by decide) (by decide) (by decide)) (fr_mono e4 (by decide) (by decide) (by decide))
  have hT3 : m_text F3 ((tkn d).map Prod.fst) := by
    unfold m_text
    rw [e4.2.1 46 (by decide)]
    exact c2
  have h473 : rk (F3.2.1 47) (cnt 0 (tkn d)) := (e4.2.1 47 (by decide)).symm ▸ c3
  have hsz3 : F3.1 3416 = nI ((tkn d).map Prod.fst).length := by
    rw [e4.1 3416 (by decide), c4, List.length_map, List.length_nil, Nat.zero_add]
  have hg3 : m_given F3 gv := m_given_fr (m_given_fr hg a4 (by decide)) hfr13 (by decide)
  have hm3 : m_rules F3 ((tkn d).map Prod.fst) (r0 N) := m_rules_fr a2 hfr13 (by decide) (by decide) (by decide)
  obtain ⟨F', k1, k2, k3, k4, k5⟩ := m_loadLoop (σ := σ) (b := b) (gv := gv) hb (T := (tkn d).map Prod.fst) (C := cnt 0 (tkn d)) (by rw [List.length_map]; omega) (tkn_tk d.length d (Nat.le_refl _) htk) hgo ((tkn d).length + 1) 0 0 (tkn d) F3 (r0 N) (Nat.le_refl _) (Nat.zero_le _) rfl rfl e3 hT3 hsz3 h473 hg3 (r0_in hN) (Nat.zero_le _) hm3
  refine ⟨F', ?_, k2, k3, m_text_fr hT3 k5 (by decide), ⟨?_, rk_nil _⟩, m_fates_fr e2 k5 (by decide), k4, fr_trans (fr_trans (fr_mono a4 (by decide) (by decide) (by decide)) (fr_mono hfr13 (by decide) (by decide) (by decide))) (fr_mono k5 (by decide) (by decide) (by decide))⟩
  · have c1' : f_M_copyText (some (fx_ad b 34)) (fx_mk σ b F1) = some (none, fx_mk σ b F2) := by
      unfold f_M_copyText
      simp (disch := omega) only [↓fx_vm hb, u_l0]
      exact c1
    unfold f_M_load
    simp (disch := omega) only [↓fx_bm, ↓cV_of a1, ↓cV_of c1', u_l0]
    refine Eq.trans e1 ?_
    exact k1
  · rw [k5.1 3401 (by decide), e4.1 3401 (by decide), c5]
    rfl
end
