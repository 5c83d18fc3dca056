/-! the reference: carry, carryOut -/
section
variable {σ : rb_St} {b : Nat} {F : fx_F} {T : List Nat} {gv : Nat → Option (List Nat)} {R : RS}
theorem m_unseen {w : Nat} (hw : w < 64) {S : PS} {n : Nat} (hB : m_bx T gv R w F S n) {t : Nat} (ht : t < 32) {x4 x6 x8 : Int32} (qu : Bool) : ((rb_fc (fx_mk σ b F) (some (fx_ad b 34)) 13).bind fun _ => rb_cI (f_M_option (some (fx_ad b 34)) ((8 : Int32)) (fx_mk σ b F)) fun x_13 σ_14 => if x_13 = 0 then (if nI (b2 qu) = 0 then ((rb_fc σ_14 (some (fx_ad b 34)) 13).bind fun _ => rb_cI (f_M_isSilent (some (fx_ad b 34)) (nI t) σ_14) fun x_15 σ_16 => if x_15 = 0 then ((rb_fc σ_16 (some (fx_ad b 34)) 13).bind fun _ => rb_cI (f_M_option (some (fx_ad b 34)) ((32 : Int32)) σ_16) fun x_17 σ_18 => if x_17 = 0 then (f_M_carry_j232 (some (fx_ad b 34)) (nI t) x4 x6 x8 σ_18) else (f_M_carry_j220 (some (fx_ad b 34)) (nI t) x4 x6 x8 σ_18)) else (f_M_carry_j220 (some (fx_ad b 34)) (nI t) x4 x6 x8 σ_16)) else (f_M_carry_j220 (some (fx_ad b 34)) (nI t) x4 x6 x8 σ_14)) else (f_M_carry_j228 (some (fx_ad b 34)) (nI t) x4 x6 x8 σ_14)) = f_M_carry_j233 (some (fx_ad b 34)) (nI t) x4 x6 x8 (nI (b2 (op w 8 || ((qu || (rFl R 3 t || rBo R 1) || op w 32) && !op w 2)))) (fx_mk σ b F) := by
  have hsi : (F.2.1 51)[t]? = some (nI (b2 (rFl R 3 t))) := (hB.1.2.2.2.2.2.2.2.1 t ht).2.2.2
  have has : F.1 3423 = nI (b2 (rBo R 1)) := hB.1.2.2.2.2.2.2.2.2.2.1.2
  have ho := op_a w hw
  have ho8 : f_M_option (some (fx_ad b 34)) (8 : Int32) (fx_mk σ b F) = some (some (.int (nI (b2 (op w 8)))), fx_mk σ b F) := m_option hw hB.2.2.2.2.2.1 ho.2.2.2.1
  have ho2 : f_M_option (some (fx_ad b 34)) (2 : Int32) (fx_mk σ b F) = some (some (.int (nI (b2 (op w 2)))), fx_mk σ b F) := m_option hw hB.2.2.2.2.2.1 ho.2.1
  have ho32 : f_M_option (some (fx_ad b 34)) (32 : Int32) (fx_mk σ b F) = some (some (.int (nI (b2 (op w 32)))), fx_mk σ b F) := m_option hw hB.2.2.2.2.2.1 ho.2.2.2.2.2.1
  have hsl := m_isSilent (σ := σ) (b := b) ht hsi has
  have h220 : f_M_carry_j220 (some (fx_ad b 34)) (nI t) x4 x6 x8 (fx_mk σ b F) = f_M_carry_j233 (some (fx_ad b 34)) (nI t) x4 x6 x8 (nI (b2 (!op w 2))) (fx_mk σ b F) := by
    unfold f_M_carry_j220 f_M_carry_j228 f_M_carry_j232
    cases h : op w 2
    · rw [h] at ho2
      simp (disch := omega) only [b2_f] at ho2
      simp (disch := omega) only [↓fx_bm, ↓cI_of ho2, ↓reduceIte, n_ltT, n_ltF, n_leT, n_leF, n_eqT, n_eqF, nI_1, u_lt, u_le, u_eq, u_add, u_ix, u_ixL, u_ixR, u_cl, u_nm1, u_nm1', u_m1l, u_m1n, u_l0, Option.bind_some, Option.map_some, not_true_eq_false, not_false_eq_true, true_and, and_true, Nat.add_sub_cancel, Bool.false_eq_true, u_nar2, Bool.not_false, b2_t, u_l1]
    · rw [h] at ho2
      simp (disch := omega) only [b2_t] at ho2
      simp (disch := omega) only [↓fx_bm, ↓cI_of ho2, ↓reduceIte, n_ltT, n_ltF, n_leT, n_leF, n_eqT, n_eqF, nI_1, u_lt, u_le, u_eq, u_add, u_ix, u_ixL, u_ixR, u_cl, u_nm1, u_nm1', u_m1l, u_m1n, u_l0, Option.bind_some, Option.map_some, not_true_eq_false, not_false_eq_true, true_and, and_true, Nat.add_sub_cancel, Bool.false_eq_true, u_nar2, Bool.not_true, b2_f]
  generalize (rFl R 3 t || rBo R 1) = sl at hsl ⊢
  cases h8 : op w 8
  · rw [h8, b2_f] at ho8
    rw [Bool.false_or]
    cases qu
    · cases sl
      · simp only [b2_f] at hsl
        cases h32 : op w 32
        · rw [h32, b2_f] at ho32
          simp (disch := omega) only [↓fx_bm, ↓cI_of ho8, ↓cI_of hsl, ↓cI_of ho32, b2_f, ↓reduceIte, n_ltT, n_ltF, n_leT, n_leF, n_eqT, n_eqF, nI_1, u_lt, u_le, u_eq, u_add, u_ix, u_ixL, u_ixR, u_cl, u_nm1, u_nm1', u_m1l, u_m1n, u_l0, Option.bind_some, Option.map_some, not_true_eq_false, not_false_eq_true, true_and, and_true, Nat.add_sub_cancel, Bool.false_eq_true, u_nar2, Bool.or_false, Bool.false_and, f_M_carry_j232]
        · rw [h32, b2_t] at ho32
          simp (disch := omega) only [↓fx_bm, ↓cI_of ho8, ↓cI_of hsl, ↓cI_of ho32, b2_f, ↓reduceIte, n_ltT, n_ltF, n_leT, n_leF, n_eqT, n_eqF, nI_1, u_lt, u_le, u_eq, u_add, u_ix, u_ixL, u_ixR, u_cl, u_nm1, u_nm1', u_m1l, u_m1n, u_l0, Option.bind_some, Option.map_some, not_true_eq_false, not_false_eq_true, true_and, and_true, Nat.add_sub_cancel, Bool.false_eq_true, u_nar2, Bool.or_true, Bool.true_and, h220]
      · simp only [b2_t] at hsl
        simp (disch := omega) only [↓fx_bm, ↓cI_of ho8, ↓cI_of hsl, b2_f, ↓reduceIte, n_ltT, n_ltF, n_leT, n_leF, n_eqT, n_eqF, nI_1, u_lt, u_le, u_eq, u_add, u_ix, u_ixL, u_ixR, u_cl, u_nm1, u_nm1', u_m1l, u_m1n, u_l0, Option.bind_some, Option.map_some, not_true_eq_false, not_false_eq_true, true_and, and_true, Nat.add_sub_cancel, Bool.false_eq_true, u_nar2, Bool.or_true, Bool.true_or, Bool.true_and, h220]
    · simp (disch := omega) only [↓fx_bm, ↓cI_of ho8, b2_t, ↓reduceIte, n_ltT, n_ltF, n_leT, n_leF, n_eqT, n_eqF, nI_1, u_lt, u_le, u_eq, u_add, u_ix, u_ixL, u_ixR, u_cl, u_nm1, u_nm1', u_m1l, u_m1n, u_l0, Option.bind_some, Option.map_some, not_true_eq_false, not_false_eq_true, true_and, and_true, Nat.add_sub_cancel, Bool.false_eq_true, u_nar2, Bool.true_or, Bool.true_and, h220]
  · rw [h8, b2_t] at ho8
    simp (disch := omega) only [↓fx_bm, ↓cI_of ho8, ↓reduceIte, n_ltT, n_ltF, n_leT, n_leF, n_eqT, n_eqF, nI_1, u_lt, u_le, u_eq, u_add, u_ix, u_ixL, u_ixR, u_cl, u_nm1, u_nm1', u_m1l, u_m1n, u_l0, Option.bind_some, Option.map_some, not_true_eq_false, not_false_eq_true, true_and, and_true, Nat.add_sub_cancel, Bool.false_eq_true, u_nar2, Bool.true_or, b2_t, f_M_carry_j228, u_l1]
theorem m_j175 (hb : rb_b σ ≤ b) (hF : fx_ln F) {w : Nat} (hw : w < 64) {S : PS} (hS : pok S) {n : Nat} (hB : m_bx T gv R w F S n) (hT3 : T.length ≤ 320) (hTk : tk T) (hgo : gok gv) (hR : rok R) {t : Nat} (ht : t < (pN S).length) {ch : CH} (hc : chok (pN S) ch) {nw : List Bool} (hnw : (x_deps R ch t).length = nw.length) (hdl : ∀ d, d ∈ x_deps R ch t → d < (pN S).length) (hv : m_av F R (pN S) ch nw t) {k fm to i : Nat} (hk : k < 30) (hfi : fm + i ≤ to) (hto : to ≤ T.length) (hto2 : (F.2.1 57)[k]? = some (nI to)) (mi qu pl : Bool) (hpl : pl = false → op w 8 = false ∧ (op w 4 = true → op w 2 = true)) : ∃ F', f_M_carry_j175 (some (fx_ad b 34)) (nI t) (nI k) (nI (fm + i)) (nI (b2 mi)) (nI (b2 qu)) (nI (b2 pl)) (fx_mk σ b F) = some (some (.int (nI (b2 (match xr (x_auto (pN S) ch (x_deps R ch t) nw t) (vl gv (rDf R)) (slc T (fm + i) to) with | none => mi || rFl R 2 t || rBo R 0 || op w 16 | some o => if pl = false ∧ op w 2 = true then true else (x_perf (wl o (wds o o.length 0 o.length)) (if (op w 8 || ((qu || (rFl R 3 t || rBo R 1) || op w 32) && !op w 2)) = true then S else (pN S, pF S, pC S, x_puts (pP S) (o ++ [10])))).1 || (mi || rFl R 2 t || rBo R 0 || op w 16))))), fx_mk σ b F') ∧ m_bx T gv R w F' (match xr (x_auto (pN S) ch (x_deps R ch t) nw t) (vl gv (rDf R)) (slc T (fm + i) to) with | none => S | some o => if pl = false ∧ op w 2 = true then (if (op w 8 || ((qu || (rFl R 3 t || rBo R 1) || op w 32) && !op w 2)) = true then S else (pN S, pF S, pC S, x_puts (pP S) (o ++ [10]))) else (x_perf (wl o (wds o o.length 0 o.length)) (if (op w 8 || ((qu || (rFl R 3 t || rBo R 1) || op w 32) && !op w 2)) = true then S else (pN S, pF S, pC S, x_puts (pP S) (o ++ [10])))).2) (match xr (x_auto (pN S) ch (x_deps R ch t) nw t) (vl gv (rDf R)) (slc T (fm + i) to) with | none => n | some _ => if pl = false ∧ op w 2 = true then n else n + 1) ∧ fx_ln F' ∧ fr zBi zBa [36] F F' := by
  have ht32 : t < 32 := Nat.lt_of_lt_of_le ht hS.1.1
  have hvk : vok (vl gv (rDf R)) := vl_ok hgo (fun m v h => (hR.2.2.2.2.2.1 m v h).1)
  have hak := auto_ok hS.1 hc hdl (nw := nw) ht
  have hauto := m_autoC (σ := σ) (b := b) hb (rok_prk hR) hS.1 ht hdl hc hnw hv
  obtain ⟨F1, a1, a2, a3, a4⟩ := m_expand (σ := σ) (b := b) (x := (1 : Int32)) hb (Or.inr ⟨rfl, hauto⟩) hak hvk hF ⟨hB.2.1, hT3, hTk, hB.2.2.1, hgo, hB.1.2.2.2.2.2.1⟩ hfi hto
  have hB1 : m_bx T gv R w F1 S n := m_bx_fr hB a4 (by decide) (by decide) (by decide)
  have hfr1 : fr zBi zBa [36] F F1 := fr_mono a4 (by decide) (by decide) (by decide)
  have hgo2 : ∀ x8 : Int32, f_M_expand (some (fx_ad b 34)) (nI (fm + i)) (nI to) (1 : Int32) (fx_mk σ b F) = some (some (.int x8), fx_mk σ b F1) → f_M_carry_j175 (some (fx_ad b 34)) (nI t) (nI k) (nI (fm + i)) (nI (b2 mi)) (nI (b2 qu)) (nI (b2 pl)) (fx_mk σ b F) = f_M_carry_j233 (some (fx_ad b 34)) (nI t) (nI (b2 mi)) (nI (b2 pl)) x8 (nI (b2 (op w 8 || ((qu || (rFl R 3 t || rBo R 1) || op w 32) && !op w 2)))) (fx_mk σ b F1) := by
    intro x8 hx8
    rw [← m_unseen (σ := σ) (b := b) hw hB1 ht32 qu]
    unfold f_M_carry_j175
    rw [show ∀ K : Option Nat → Option rb_Rs, (rb_gR (fx_mk σ b F) (some (fx_ad b 34)) 13 31).bind K = K (some (fx_ad b 57)) from fun K => by simp only [↓fx_bm]]
    rw [show ∀ K : Int32 → Option rb_Rs, (rb_aI (fx_mk σ b F) (some (fx_ad b 57)) 102 (nI k)).bind K = K (nI to) from fun K => by simp only [↓fx_bm, ↓bx_of rfl (show k < 2147483648 by omega) hto2]]
    rw [show ∀ K : List Value → Option rb_Rs, (rb_fc (fx_mk σ b F) (some (fx_ad b 34)) 13).bind K = K (fx_row b F 34) from fun K => by simp only [↓fx_bm], cI_of hx8]
  generalize hun : (op w 8 || ((qu || (rFl R 3 t || rBo R 1) || op w 32) && !op w 2)) = un at hgo2 ⊢
  cases hx : xr (x_auto (pN S) ch (x_deps R ch t) nw t) (vl gv (rDf R)) (slc T (fm + i) to) with
  | none =>
    rw [hx] at a1
    refine ⟨F1, ?_, hB1, a3, hfr1⟩
    have h315 := m_j315 (σ := σ) (b := b) hw hB1 ht32 mi false
    rw [b2_f, Bool.false_or] at h315
    rw [hgo2 _ a1]
    unfold f_M_carry_j233 f_M_carry_j280
    simp only
    rw [if_pos (show nI 0 = 0 from rfl), if_pos (show nI 0 = 0 from rfl)]
    exact h315
  | some o =>
    rw [hx] at a1
    have hmo := a2 o hx
    have ho := xr_len hx
    have hto3 := xr_tk hak hvk (slc_tk hTk (fm + i) to) hx
    rw [hgo2 _ a1]
    simp only
    unfold f_M_carry_j233
    rw [if_neg (show ¬ nI 1 = 0 by decide)]
    cases un
    · obtain ⟨F2, c1, c2, c3, c4⟩ := m_show (σ := σ) (b := b) hb (x1 := nI t) (x4 := nI (b2 mi)) (x6 := nI (b2 pl)) (x8 := nI 1) ho o.length 0 F1 (pP S) (by omega) a3 hmo hS.2 hB1.2.2.2.2.1
      rw [List.drop_zero] at c2
      have hfr2 : fr zBi zBa [36] F1 F2 := fr_mono c4 (by decide) (by decide) (by decide)
      have hB2 : m_bx T gv R w F2 (pN S, pF S, pC S, x_puts (pP S) (o ++ [10])) n := m_bx_up hB1 hfr2 ⟨m_names_fr hB1.1.1 c4 (by decide), m_files_fr hB1.2.2.2.1 c4 (by decide), c2⟩ ((c4.1 3470 (by decide)).trans hB1.2.2.2.2.2.2)
      obtain ⟨F3, d1, d2, d3, d4⟩ := m_j280 (σ := σ) (b := b) hb c3 hw (S := (pN S, pF S, pC S, x_puts (pP S) (o ++ [10]))) ⟨hS.1, puts_len _ _⟩ hB2 ho hto3 (m_out_fr hmo c4 (by decide)) ht32 mi pl hpl
      refine ⟨F3, ?_, d2, d3, fr_trans hfr1 (fr_trans hfr2 d4)⟩
      rw [if_pos (show nI (b2 false) = 0 from rfl)]
      exact c1.trans d1
    · obtain ⟨F3, d1, d2, d3, d4⟩ := m_j280 (σ := σ) (b := b) hb a3 hw hS hB1 ho hto3 hmo ht32 mi pl hpl
      refine ⟨F3, ?_, d2, d3, fr_trans hfr1 d4⟩
      rw [if_neg (show ¬ nI (b2 true) = 0 by decide)]
      exact d1
end
