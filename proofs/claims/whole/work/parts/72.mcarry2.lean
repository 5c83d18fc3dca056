/-! the reference: a command is carried out, to its end -/
theorem rok_prk {R : RS} (h : rok R) : prk (rPr R) := ⟨h.2.2.2.2.1.1, fun k hk => ⟨Nat.lt_of_lt_of_le (h.2.2.2.2.1.2 k hk).1 h.1.1, Nat.lt_of_lt_of_le (h.2.2.2.2.1.2 k hk).2 h.1.1⟩⟩
theorem m_bx_up {T : List Nat} {gv : Nat → Option (List Nat)} {R : RS} {w : Nat} {F F' : fx_F} {S S' : PS} {n n' : Nat} (h : m_bx T gv R w F S n) (hf : fr zBi zBa [36] F F') (hp : m_ps F' S') (hn : F'.1 3470 = nI n') : m_bx T gv R w F' S' n' := by
  obtain ⟨g1, g2, g3, g4, g5, g6, g7⟩ := h
  exact ⟨m_rules_nm g1 hp.1 hf (by decide) (by decide) (by decide), m_text_fr g2 hf (by decide), m_given_fr g3 hf (by decide), hp.2.1, hp.2.2, (hf.1 3456 (by decide)).trans g6, hn⟩
theorem m_bx_ps {T : List Nat} {gv : Nat → Option (List Nat)} {R : RS} {w : Nat} {F : fx_F} {S : PS} {n : Nat} (h : m_bx T gv R w F S n) : m_ps F S := ⟨h.1.1, h.2.2.2.1, h.2.2.2.2.1⟩
theorem join_tk : ∀ (l : List (List Nat)), (∀ w, w ∈ l → tk w) → tk (x_join l)
  | [], _ => fun c hc => (by cases hc)
  | [a], h => h a (List.mem_cons_self ..)
  | a :: c :: l, h => by
    have ih := join_tk (c :: l) (fun w hw => h w (List.mem_cons_of_mem _ hw))
    have ha := h a (List.mem_cons_self ..)
    rw [x_join]
    refine tk_app (tk_app ha ?_) ih
    intro x hx
    rw [List.mem_singleton] at hx
    subst hx
    decide
theorem name_tk {w : List Nat} (h : sp_name w = true) : tk w := by
  simp only [sp_name, Bool.and_eq_true, decide_eq_true_eq] at h
  intro c hc
  have h2 := List.all_eq_true.mp h.2 c hc
  simp only [sp_nc, decide_eq_true_eq] at h2
  unfold ty
  exact decide_eq_true (by omega)
theorem auto_ok {N : List (List Nat)} (hN : nok N) {ch : CH} (hc : chok N ch) {ds : List Nat} (hd : ∀ d, d ∈ ds → d < N.length) {nw : List Bool} {t : Nat} (ht : t < N.length) : aok (x_auto N ch ds nw t) := by
  intro c l hl
  have hnm : ∀ k, k < N.length → tk (N.getD k []) := fun k hk => name_tk (hN.2 k hk)
  have hnil : tk [] := fun c hc => (by cases hc)
  unfold x_auto at hl
  split at hl
  · injection hl with hl
    subst hl
    exact hnm t ht
  · split at hl
    · injection hl with hl
      subst hl
      split
      · exact hnm t ht
      · cases hs : ch.2.1 with
        | none => exact hnil
        | some x => exact hnm x.1 (hc.1 x hs).1
    · split at hl
      · injection hl with hl
        subst hl
        cases hs : ch.2.1 with
        | none => exact hnil
        | some x => exact (hc.1 x hs).2.2.1
      · split at hl
        · injection hl with hl
          subst hl
          refine join_tk _ (fun w hw => ?_)
          unfold x_newer at hw
          obtain ⟨x, hx, e⟩ := List.mem_map.mp hw
          subst e
          exact hnm x.1 (hd _ (List.of_mem_zip (List.mem_filter.mp hx).1).1)
        · cases hl
section
variable {σ : rb_St} {b : Nat} {F : fx_F} {T : List Nat} {gv : Nat → Option (List Nat)} {R : RS}
theorem m_j315 {w : Nat} (hw : w < 64) {S : PS} {n : Nat} (hB : m_bx T gv R w F S n) {t : Nat} (ht : t < 32) (mi x : Bool) : f_M_carry_j315 (some (fx_ad b 34)) (nI t) (nI (b2 mi)) (nI (b2 x)) (fx_mk σ b F) = some (some (.int (nI (b2 (x || (mi || rFl R 2 t || rBo R 0 || op w 16))))), fx_mk σ b F) := by
  have hig := (hB.1.2.2.2.2.2.2.2.1 t ht).2.2.1
  have hai := hB.1.2.2.2.2.2.2.2.2.2.1.1
  replace hig : (F.2.1 50)[t]? = some (nI (b2 (rFl R 2 t))) := hig
  replace hai : F.1 3422 = nI (b2 (rBo R 0)) := hai
  have hop : f_M_option (some (fx_ad b 34)) (16 : Int32) (fx_mk σ b F) = some (some (.int (nI (b2 (op w 16)))), fx_mk σ b F) := m_option hw hB.2.2.2.2.2.1 (op_a w hw).2.2.2.2.1
  unfold f_M_carry_j315
  cases x
  · cases mi
    · cases h2 : rFl R 2 t
      · rw [h2] at hig
        cases h0 : rBo R 0
        · rw [h0] at hai
          cases h16 : op w 16
          · rw [h16] at hop
            simp (disch := omega) only [b2_f] at hig hai hop
            simp (disch := omega) only [↓fx_bm, ↓bx_of rfl (show t < 2147483648 by omega) hig, hai, ↓cI_of hop, b2_f, ↓reduceIte, n_ltT, n_ltF, n_leT, n_leF, n_eqT, n_eqF, nI_1, u_lt, u_le, u_eq, u_add, u_ix, u_ixL, u_ixR, u_cl, u_nm1, u_nm1', u_m1l, u_m1n, u_l0, Option.bind_some, Option.map_some, not_true_eq_false, not_false_eq_true, true_and, and_true, Nat.add_sub_cancel, Bool.false_eq_true, u_nar2, Bool.or_false]
          · rw [h16] at hop
            simp (disch := omega) only [b2_f, b2_t] at hig hai hop
            simp (disch := omega) only [↓fx_bm, ↓bx_of rfl (show t < 2147483648 by omega) hig, hai, ↓cI_of hop, b2_f, b2_t, ↓reduceIte, n_ltT, n_ltF, n_leT, n_leF, n_eqT, n_eqF, nI_1, u_lt, u_le, u_eq, u_add, u_ix, u_ixL, u_ixR, u_cl, u_nm1, u_nm1', u_m1l, u_m1n, u_l0, Option.bind_some, Option.map_some, not_true_eq_false, not_false_eq_true, true_and, and_true, Nat.add_sub_cancel, Bool.false_eq_true, u_nar2, Bool.or_true, u_l1]
        · rw [h0] at hai
          simp (disch := omega) only [b2_f, b2_t] at hig hai
          simp (disch := omega) only [↓fx_bm, ↓bx_of rfl (show t < 2147483648 by omega) hig, hai, b2_f, b2_t, ↓reduceIte, n_ltT, n_ltF, n_leT, n_leF, n_eqT, n_eqF, nI_1, u_lt, u_le, u_eq, u_add, u_ix, u_ixL, u_ixR, u_cl, u_nm1, u_nm1', u_m1l, u_m1n, u_l0, Option.bind_some, Option.map_some, not_true_eq_false, not_false_eq_true, true_and, and_true, Nat.add_sub_cancel, Bool.false_eq_true, u_nar2, Bool.or_true, Bool.true_or, u_l1]
      · rw [h2] at hig
        simp (disch := omega) only [b2_t] at hig
        simp (disch := omega) only [↓fx_bm, ↓bx_of rfl (show t < 2147483648 by omega) hig, b2_f, b2_t, ↓reduceIte, n_ltT, n_ltF, n_leT, n_leF, n_eqT, n_eqF, nI_1, u_lt, u_le, u_eq, u_add, u_ix, u_ixL, u_ixR, u_cl, u_nm1, u_nm1', u_m1l, u_m1n, u_l0, Option.bind_some, Option.map_some, not_true_eq_false, not_false_eq_true, true_and, and_true, Nat.add_sub_cancel, Bool.false_eq_true, u_nar2, Bool.or_true, Bool.true_or, u_l1]
    · simp (disch := omega) only [b2_f, b2_t, ↓reduceIte, n_ltT, n_ltF, n_leT, n_leF, n_eqT, n_eqF, nI_1, u_lt, u_le, u_eq, u_add, u_ix, u_ixL, u_ixR, u_cl, u_nm1, u_nm1', u_m1l, u_m1n, u_l0, Option.bind_some, Option.map_some, not_true_eq_false, not_false_eq_true, true_and, and_true, Nat.add_sub_cancel, Bool.false_eq_true, u_nar2, Bool.or_true, Bool.true_or, u_l1]
  · simp (disch := omega) only [b2_t, ↓reduceIte, n_ltT, n_ltF, n_leT, n_leF, n_eqT, n_eqF, nI_1, u_lt, u_le, u_eq, u_add, u_ix, u_ixL, u_ixR, u_cl, u_nm1, u_nm1', u_m1l, u_m1n, u_l0, Option.bind_some, Option.map_some, not_true_eq_false, not_false_eq_true, true_and, and_true, Nat.add_sub_cancel, Bool.false_eq_true, u_nar2, Bool.true_or, u_l1]
/-- the end of carrying out: the expansion o stands there -/
theorem m_j280 (hb : rb_b σ ≤ b) (hF : fx_ln F) {w : Nat} (hw : w < 64) {S : PS} (hS : pok S) {n : Nat} (hB : m_bx T gv R w F S n) {o : List Nat} (ho : o.length ≤ 120) (hto : tk o) (hmo : m_out F o) {t : Nat} (ht : t < 32) (mi pl : Bool) (hpl : pl = false → op w 8 = false ∧ (op w 4 = true → op w 2 = true)) : ∃ F', f_M_carry_j280 (some (fx_ad b 34)) (nI t) (nI (b2 mi)) (nI (b2 pl)) (nI 1) (fx_mk σ b F) = some (some (.int (nI (b2 (if pl = false ∧ op w 2 = true then true else (x_perf (wl o (wds o o.length 0 o.length)) S).1 || (mi || rFl R 2 t || rBo R 0 || op w 16))))), fx_mk σ b F') ∧ m_bx T gv R w F' (if pl = false ∧ op w 2 = true then S else (x_perf (wl o (wds o o.length 0 o.length)) S).2) (if pl = false ∧ op w 2 = true then n else n + 1) ∧ fx_ln F' ∧ fr zBi zBa [36] F F' := by
  have hgo : ∃ F', f_M_carry_j299 (some (fx_ad b 34)) (nI t) (nI (b2 mi)) (fx_mk σ b F) = some (some (.int (nI (b2 ((x_perf (wl o (wds o o.length 0 o.length)) S).1 || (mi || rFl R 2 t || rBo R 0 || op w 16))))), fx_mk σ b F') ∧ m_bx T gv R w F' (x_perf (wl o (wds o o.length 0 o.length)) S).2 (n + 1) ∧ fx_ln F' ∧ fr zBi zBa [36] F F' := by
    have hfr1 : fr zBi zBa [36] F (fx_I F 3470 (nI (n + 1))) := fr_I (fr_refl _ _ _ _) (by decide)
    have hfr1' : fr [3470] [] [] F (fx_I F 3470 (nI (n + 1))) := fr_I (fr_refl _ _ _ _) (by decide)
    obtain ⟨F2, a1, a2, a3, a4⟩ := m_perform (σ := σ) (b := b) hb (fx_lnI (z := 3470) (x := nI (n + 1)) hF) ho hto (m_out_fr hmo hfr1' (by decide)) hS (m_ps_fr (m_bx_ps hB) hfr1' (by decide))
    have hfr2 : fr zBi zBa [36] F F2 := fr_trans hfr1 (fr_mono a4 (by decide) (by decide) (by decide))
    have hn2 : F2.1 3470 = nI (n + 1) := by
      rw [a4.1 3470 (by decide), fx_I_1, if_pos rfl]
    have hB2 := m_bx_up hB hfr2 a2 hn2
    refine ⟨F2, ?_, hB2, a3, hfr2⟩
    have h315 := m_j315 (σ := σ) (b := b) hw hB2 ht mi (x_perf (wl o (wds o o.length 0 o.length)) S).1
    rw [← h315]
    have a1' : f_M_perform (some (fx_ad b 34)) (fx_mk σ b (fx_I F 3470 (F.1 3470 + (1 : Int32)))) = some (some (.int (nI (b2 (x_perf (wl o (wds o o.length 0 o.length)) S).1))), fx_mk σ b F2) := by
      rw [hB.2.2.2.2.2.2, u_l1, u_add]
      exact a1
    unfold f_M_carry_j299
    simp only [↓fx_bm, ↓fx_vm hb, ↓cI_of a1']
  have hop : f_M_option (some (fx_ad b 34)) (14 : Int32) (fx_mk σ b F) = some (some (.int (nI (b2 (op w 2 || op w 4 || op w 8)))), fx_mk σ b F) := m_option hw hB.2.2.2.2.2.1 (op_a w hw).2.2.2.2.2.2
  obtain ⟨F', e1, e2, e3, e4⟩ := hgo
  cases pl
  · obtain ⟨p1, p2⟩ := hpl rfl
    cases h2 : op w 2
    · have h4 : op w 4 = false := by
        cases h : op w 4
        · rfl
        · rw [p2 h] at h2
          cases h2
      rw [h2, h4, p1] at hop
      simp only [Bool.or_false, b2_f] at hop
      rw [if_neg (by simp), if_neg (by simp), if_neg (by simp)]
      refine ⟨F', ?_, e2, e3, e4⟩
      rw [← e1]
      unfold f_M_carry_j280
      simp (disch := omega) only [↓fx_bm, ↓cI_of hop, ↓reduceIte, n_ltT, n_ltF, n_leT, n_leF, n_eqT, n_eqF, nI_1, u_lt, u_le, u_eq, u_add, u_ix, u_ixL, u_ixR, u_cl, u_nm1, u_nm1', u_m1l, u_m1n, u_l0, Option.bind_some, Option.map_some, not_true_eq_false, not_false_eq_true, true_and, and_true, Nat.add_sub_cancel, Bool.false_eq_true, u_nar2, b2_f]
    · rw [h2] at hop
      simp only [Bool.true_or, b2_t] at hop
      rw [if_pos ⟨rfl, rfl⟩, if_pos ⟨rfl, rfl⟩, if_pos ⟨rfl, rfl⟩]
      refine ⟨F, ?_, hB, hF, fr_refl _ _ _ _⟩
      have h315 := m_j315 (σ := σ) (b := b) hw hB ht mi true
      rw [Bool.true_or, b2_t] at h315
      rw [b2_t]
      unfold f_M_carry_j280
      simp (disch := omega) only [↓fx_bm, ↓cI_of hop, ↓reduceIte, n_ltT, n_ltF, n_leT, n_leF, n_eqT, n_eqF, nI_1, u_lt, u_le, u_eq, u_add, u_ix, u_ixL, u_ixR, u_cl, u_nm1, u_nm1', u_m1l, u_m1n, u_l0, Option.bind_some, Option.map_some, not_true_eq_false, not_false_eq_true, true_and, and_true, Nat.add_sub_cancel, Bool.false_eq_true, u_nar2, b2_f, h315]
  · rw [if_neg (by simp), if_neg (by simp), if_neg (by simp)]
    refine ⟨F', ?_, e2, e3, e4⟩
    rw [← e1]
    unfold f_M_carry_j280
    simp (disch := omega) only [↓reduceIte, n_ltT, n_ltF, n_leT, n_leF, n_eqT, n_eqF, nI_1, u_lt, u_le, u_eq, u_add, u_ix, u_ixL, u_ixR, u_cl, u_nm1, u_nm1', u_m1l, u_m1n, u_l0, Option.bind_some, Option.map_some, not_true_eq_false, not_false_eq_true, true_and, and_true, Nat.add_sub_cancel, Bool.false_eq_true, u_nar2, b2_t]
theorem m_show (hb : rb_b σ ≤ b) {x1 x4 x6 x8 : Int32} {o : List Nat} (ho : o.length ≤ 120) : ∀ (m i : Nat) (F : fx_F) (p : List Nat), i + m = o.length → fx_ln F → m_out F o → p.length ≤ 400 → m_print F p → ∃ F', rb_it (fun z : (Int32 × rb_St) => f_M_carry_b248 (some (fx_ad b 34)) x1 x4 x6 x8 (z.1) z.2) (nI i, fx_mk σ b F) = f_M_carry_j280 (some (fx_ad b 34)) x1 x4 x6 x8 (fx_mk σ b F') ∧ m_print F' (x_puts p (o.drop i ++ [10])) ∧ fx_ln F' ∧ fr [3472] [82] [] F F' := by
  intro m
  induction m with
  | zero =>
    intro i F p hi hF hmo hp hm
    obtain ⟨F1, a1, a2, a3, a4⟩ := m_put (σ := σ) (b := b) hb hF hp hm 10
    have a1' : f_M_put (some (fx_ad b 34)) (10 : Int32) (fx_mk σ b F) = some (none, fx_mk σ b F1) := a1
    rw [List.drop_eq_nil_of_le (by omega), List.nil_append]
    refine ⟨F1, ?_, a2, a3, a4⟩
    refine rb_it_m ?_
    show f_M_carry_b248 _ _ _ _ _ _ _ = _
    unfold f_M_carry_b248
    simp (disch := omega) only [↓fx_bm, hmo.1, ↓cV_of a1', ↓reduceIte, n_ltT, n_ltF, n_leT, n_leF, n_eqT, n_eqF, nI_1, u_lt, u_le, u_eq, u_add, u_ix, u_ixL, u_ixR, u_cl, u_nm1, u_nm1', u_m1l, u_m1n, u_l0, Option.bind_some, Option.map_some, not_true_eq_false, not_false_eq_true, true_and, and_true, Nat.add_sub_cancel, Bool.false_eq_true, u_nar2]
  | succ m ih =>
    intro i F p hi hF hmo hp hm
    have hil : i < o.length := by omega
    have hg := rk_getD hmo.2 (i := i) hil
    obtain ⟨F1, a1, a2, a3, a4⟩ := m_put (σ := σ) (b := b) hb hF hp hm (o.getD i 0)
    obtain ⟨F', e1, e2, e3, e4⟩ := ih (i + 1) F1 (x_puts p [o.getD i 0]) (by omega) a3 (m_out_fr hmo a4 (by decide)) (puts_len _ _) a2
    refine ⟨F', ?_, ?_, e3, fr_trans a4 e4⟩
    · rw [← e1]
      refine rb_it_l ?_
      show f_M_carry_b248 _ _ _ _ _ _ _ = _
      unfold f_M_carry_b248
      simp (disch := omega) only [↓fx_bm, hmo.1, ↓bx_of rfl (show i < 2147483648 by omega) hg, ↓cV_of a1, ↓reduceIte, n_ltT, n_ltF, n_leT, n_leF, n_eqT, n_eqF, nI_1, u_lt, u_le, u_eq, u_add, u_ix, u_ixL, u_ixR, u_cl, u_nm1, u_nm1', u_m1l, u_m1n, u_l0, Option.bind_some, Option.map_some, not_true_eq_false, not_false_eq_true, true_and, and_true, Nat.add_sub_cancel, Bool.false_eq_true, u_nar2]
    · rw [puts_app] at e2
      rw [List.drop_eq_getElem_cons hil, ← getD_get (d := 0) hil]
      exact e2
end
