/-! the reference: change -/
section
variable {σ : rb_St} {b : Nat} {F : fx_F} {T : List Nat} {gv : Nat → Option (List Nat)}
theorem m_change_copy (hb : rb_b σ ≤ b) (hT : m_text F T) (hT3 : T.length ≤ 320) (hg : m_given F gv) (hgo : gok gv) {s : Option Nat} (hs : sok gv s) {l cf ct nt : Nat} (hl : l < 6) (hv : m_lv F l s cf ct nt) (h1 : ct < nt) (h2 : nt ≤ (bs T gv s).length) {a L : Nat} (hL : L ≤ 120) (ha : a + (nt - ct - 1) ≤ L) : ∀ (m k : Nat) (row : List Int32), k + m = nt - ct - 1 → row.length = 120 → ∃ row' : List Int32, row'.length = 120 ∧ (∀ i, row'[i]? = if a + k ≤ i ∧ i < a + (nt - ct - 1) then some (nI ((bs T gv s).getD (ct + 1 + (i - a)) 0)) else row[i]?) ∧ rb_it (fun z : (Int32 × rb_St) => f_M_change_b139 (some (fx_ad b 34)) (nI a) (nI (nt - ct - 1)) (z.1) z.2) (nI k, fx_mk σ b (fx_I (fx_A F 62 row) 3444 (nI L))) = some (some (.int (nI 1)), fx_mk σ b (fx_I (fx_A F 62 row') 3444 (nI L))) := by
  have hbl := bs_len (T := T) (gv := gv) (s := s) hT3 hgo
  intro m
  induction m with
  | zero =>
    intro k row hk hr
    refine ⟨row, hr, fun i => by rw [if_neg (by omega)], ?_⟩
    refine rb_it_r ?_
    unfold f_M_change_b139
    rw [if_pos (nI_le (by omega) (by omega))]
    rfl
  | succ m ih =>
    intro k row hk hr
    obtain ⟨row', e1, e2, e3⟩ := ih (k + 1) (row.set (a + k) (nI ((bs T gv s).getD (ct + 1 + k) 0))) (by omega) (by simp [hr])
    refine ⟨row', e1, fun i => ?_, ?_⟩
    · rw [e2 i, set_get (by omega)]
      by_cases h3 : a + (k + 1) ≤ i ∧ i < a + (nt - ct - 1)
      · rw [if_pos h3, if_pos (by omega)]
      · rw [if_neg h3]
        by_cases h4 : i = a + k
        · rw [if_pos h4, if_pos (by omega), show i - a = k by omega]
        · rw [if_neg h4, if_neg (by omega)]
    · rw [← e3]
      refine rb_it_l ?_
      have hch := m_charAt (σ := σ) (b := b) (F := fx_I (fx_A F 62 row) 3444 (nI L)) (T := T) (gv := gv) hT hg hgo hs (l := l) (p := ct + 1 + k) (by omega) hv.2.1 (by omega) hT3
      unfold f_M_change_b139
      simp (disch := omega) only [fx_rm, fx_wm hb, Bool.false_eq_true, Option.bind_some, Option.map_some, rb_cI, rb_cL, rb_cR, rb_cV, reduceIte, ite_true, ite_false, not_true_eq_false, not_false_eq_true, true_and, and_true, Nat.reduceEqDiff, Nat.reduceAdd, Nat.reduceMul, Nat.add_sub_cancel, fx_II, fx_AA, fx_LL, fx_I_1, fx_I_A, fx_I_L, fx_I_R, fx_I_Q, fx_A_1, fx_A_A, fx_A_L, fx_A_R, fx_A_Q, fx_L_1, fx_L_A, fx_L_L, fx_L_R, fx_L_Q, fx_R_1, fx_R_A, fx_R_L, fx_R_R, fx_R_Q, fx_Q_1, fx_Q_A, fx_Q_L, fx_Q_R, fx_Q_Q, fx_AI, hv.1, hv.2.2.2.1, u_l0, u_l1, u_l2, u_l3, u_l4, u_l6, u_l7, u_l8, u_l9, u_l10, u_l14, u_l16, u_l18, u_l26, u_l31, u_l32, u_l36, u_l37, u_l40, u_l41, u_l42, u_l46, u_l48, u_l57, u_l58, u_l60, u_l61, u_l62, u_l63, u_l64, u_l65, u_l80, u_l90, u_l92, u_l95, u_l97, u_l120, u_l122, u_l126, u_l127, u_l320, u_l400, nI_1, u_lt, u_le, u_eq, u_add, u_ix, u_ixL, u_ixR, u_cl, u_nm1, u_nm1', u_m1l, u_m1n, if_pos, if_neg, u_sub, hch, u_nar2, hr]
theorem m_change_rows (hb : rb_b σ ≤ b) (hF : fx_ln F) {L a t n : Nat} (hL : F.1 3444 = nI L) (hL1 : L ≤ 120) (hat : a ≤ t) (ht1 : 1 ≤ t) (htL : t ≤ L) (hn : n ≤ 320) (hfit : L + n - (t - a) ≤ 120) : ∃ row' : List Int32, row'.length = 120 ∧ (∀ i, row'[i]? = if a + n ≤ i ∧ i < L + n - (t - a) then (F.2.1 62)[i + (t - a) - n]? else (F.2.1 62)[i]?) ∧ rb_it (fun z : (Int32 × rb_St) => f_M_change_b51 (some (fx_ad b 34)) (nI a) (nI t) (nI n) (nI n - nI (t - a)) (z.1) z.2) (nI (L - 1), fx_mk σ b F) = f_M_change_j125 (some (fx_ad b 34)) (nI a) (nI n) (nI n - nI (t - a)) (fx_mk σ b (fx_A F 62 row')) := by
  have hr := hF.1 62
  simp only [fx_cI] at hr
  have hself : fx_A F 62 (F.2.1 62) = F := by
    unfold fx_A
    refine Prod.ext rfl (Prod.ext ?_ rfl)
    funext j
    simp only
    split
    · rename_i e
      rw [e]
    · rfl
  by_cases h1 : t - a < n
  · obtain ⟨row', e1, e2, e3⟩ := m_shr (σ := σ) (b := b) hb hF (L := L) (t := t) (n := n) (u := t - a) (nI a) hL ht1 h1 hfit (L - t) L (F.2.1 62) (by omega) (Nat.le_refl _) hr
    rw [hself] at e3
    refine ⟨row', e1, fun i => ?_, ?_⟩
    · rw [e2 i]
      by_cases h : t + n - (t - a) ≤ i ∧ i < L + n - (t - a)
      · rw [if_pos h, if_pos (by omega)]
      · rw [if_neg h, if_neg (by omega)]
    · rw [e3]
      unfold f_M_change_j85
      refine rb_it_m ?_
      unfold f_M_change_b88
      rw [u_sub (by omega)]
      simp (disch := omega) only [fx_rm, Bool.false_eq_true, Option.bind_some, Option.map_some, rb_cI, rb_cL, rb_cR, rb_cV, reduceIte, ite_true, ite_false, not_true_eq_false, not_false_eq_true, true_and, and_true, Nat.reduceEqDiff, Nat.reduceAdd, Nat.reduceMul, Nat.add_sub_cancel, fx_II, fx_AA, fx_LL, fx_I_1, fx_I_A, fx_I_L, fx_I_R, fx_I_Q, fx_A_1, fx_A_A, fx_A_L, fx_A_R, fx_A_Q, fx_L_1, fx_L_A, fx_L_L, fx_L_R, fx_L_Q, fx_R_1, fx_R_A, fx_R_L, fx_R_R, fx_R_Q, fx_Q_1, fx_Q_A, fx_Q_L, fx_Q_R, fx_Q_Q, hL, u_l0, nI_1, u_lt, u_le, u_eq, u_add, u_ix, u_ixL, u_ixR, u_cl, u_nm1, u_nm1', u_m1l, u_m1n, if_pos, if_neg, Nat.zero_le]
      split <;> rfl
  · have hneg : nI n - nI (t - a) ≤ 0 := by
      by_cases h2 : n = t - a
      · rw [h2, u_sub (Nat.le_refl _), Nat.sub_self]
        decide
      · exact Int32.le_of_lt (u_negl (by omega) (by omega))
    have hj : rb_it (fun z : (Int32 × rb_St) => f_M_change_b51 (some (fx_ad b 34)) (nI a) (nI t) (nI n) (nI n - nI (t - a)) (z.1) z.2) (nI (L - 1), fx_mk σ b F) = f_M_change_j85 (some (fx_ad b 34)) (nI a) (nI t) (nI n) (nI n - nI (t - a)) (fx_mk σ b F) := by
      refine rb_it_m ?_
      unfold f_M_change_b51
      simp only
      rw [if_pos hneg, ite_self]
    rw [hj]
    unfold f_M_change_j85
    by_cases h2 : n = t - a
    · refine ⟨F.2.1 62, hr, fun i => ?_, ?_⟩
      · rw [show i + (t - a) - n = i by omega, ite_self]
      · rw [hself]
        refine rb_it_m ?_
        unfold f_M_change_b88
        rw [u_sub (by omega)]
        simp (disch := omega) only [fx_rm, Bool.false_eq_true, Option.bind_some, Option.map_some, rb_cI, rb_cL, rb_cR, rb_cV, reduceIte, ite_true, ite_false, not_true_eq_false, not_false_eq_true, true_and, and_true, Nat.reduceEqDiff, Nat.reduceAdd, Nat.reduceMul, Nat.add_sub_cancel, fx_II, fx_AA, fx_LL, fx_I_1, fx_I_A, fx_I_L, fx_I_R, fx_I_Q, fx_A_1, fx_A_A, fx_A_L, fx_A_R, fx_A_Q, fx_L_1, fx_L_A, fx_L_L, fx_L_R, fx_L_Q, fx_R_1, fx_R_A, fx_R_L, fx_R_R, fx_R_Q, fx_Q_1, fx_Q_A, fx_Q_L, fx_Q_R, fx_Q_Q, hL, u_l0, nI_1, u_lt, u_le, u_eq, u_add, u_ix, u_ixL, u_ixR, u_cl, u_nm1, u_nm1', u_m1l, u_m1n, if_pos, if_neg, Nat.zero_le]
        split <;> rfl
    · obtain ⟨row', e1, e2, e3⟩ := m_shl (σ := σ) (b := b) hb hF (L := L) (t := t) (n := n) (u := t - a) (nI a) hL hL1 (by omega) (by omega) (by omega) (L - t) t (F.2.1 62) (by omega) (Nat.le_refl _) hr
      rw [hself] at e3
      refine ⟨row', e1, fun i => ?_, e3⟩
      rw [e2 i]
      by_cases h : t + n - (t - a) ≤ i ∧ i < L + n - (t - a)
      · rw [if_pos h, if_pos (by omega)]
      · rw [if_neg h, if_neg (by omega)]
theorem m_change (hb : rb_b σ ≤ b) (hF : fx_ln F) (hT : m_text F T) (hT3 : T.length ≤ 320) (hg : m_given F gv) (hgo : gok gv) {s : Option Nat} (hs : sok gv s) {l cf ct nt : Nat} (hl : l < 6) (hv : m_lv F l s cf ct nt) (h1 : ct < nt) (h2 : nt ≤ (bs T gv s).length) {o : List Nat} (ho : o.length ≤ 120) (hm : m_out F o) {a t : Nat} (hat : a ≤ t) (ht1 : 1 ≤ t) (htL : t ≤ o.length) : (120 < o.length + (nt - ct - 1) - (t - a) → f_M_change (some (fx_ad b 34)) (nI a) (nI t) (fx_mk σ b F) = some (some (.int (nI 0)), fx_mk σ b F)) ∧ (o.length + (nt - ct - 1) - (t - a) ≤ 120 → ∃ F', f_M_change (some (fx_ad b 34)) (nI a) (nI t) (fx_mk σ b F) = some (some (.int (nI 1)), fx_mk σ b F') ∧ m_out F' (o.take a ++ slc (bs T gv s) (ct + 1) nt ++ o.drop t) ∧ fx_ln F' ∧ fr [3444] [62] [] F F') := by
  have hbl := bs_len (T := T) (gv := gv) (s := s) hT3 hgo
  constructor
  · intro hbig
    unfold f_M_change
    simp (disch := omega) only [fx_rm, Bool.false_eq_true, Option.bind_some, Option.map_some, rb_cI, rb_cL, rb_cR, rb_cV, reduceIte, ite_true, ite_false, not_true_eq_false, not_false_eq_true, true_and, and_true, Nat.reduceEqDiff, Nat.reduceAdd, Nat.reduceMul, Nat.add_sub_cancel, hv.1, hv.2.2.2.1, hv.2.2.2.2, hm.1, u_l0, u_l1, u_l2, u_l3, u_l4, u_l6, u_l7, u_l8, u_l9, u_l10, u_l14, u_l16, u_l18, u_l26, u_l31, u_l32, u_l36, u_l37, u_l40, u_l41, u_l42, u_l46, u_l48, u_l57, u_l58, u_l60, u_l61, u_l62, u_l63, u_l64, u_l65, u_l80, u_l90, u_l92, u_l95, u_l97, u_l120, u_l122, u_l126, u_l127, u_l320, u_l400, nI_1, u_lt, u_le, u_eq, u_add, u_ix, u_ixL, u_ixR, u_cl, u_nm1, u_nm1', u_m1l, u_m1n, if_pos, if_neg, u_sub, u_as]
  · intro hfit
    obtain ⟨row1, e1, e2, e3⟩ := m_change_rows (σ := σ) (b := b) hb hF hm.1 ho hat ht1 htL (n := nt - ct - 1) (by omega) hfit
    obtain ⟨row2, g1, g2, g3⟩ := m_change_copy (σ := σ) (b := b) hb hT hT3 hg hgo hs hl hv h1 h2 (a := a) (L := o.length + (nt - ct - 1) - (t - a)) hfit (by omega) (nt - ct - 1) 0 row1 (by omega) e1
    refine ⟨fx_I (fx_A F 62 row2) 3444 (nI (o.length + (nt - ct - 1) - (t - a))), ?_, ⟨?_, ?_⟩, ?_, ?_⟩
    · unfold f_M_change
      simp (disch := omega) only [fx_rm, Bool.false_eq_true, Option.bind_some, Option.map_some, rb_cI, rb_cL, rb_cR, rb_cV, reduceIte, ite_true, ite_false, not_true_eq_false, not_false_eq_true, true_and, and_true, Nat.reduceEqDiff, Nat.reduceAdd, Nat.reduceMul, Nat.add_sub_cancel, hv.1, hv.2.2.2.1, hv.2.2.2.2, hm.1, u_l0, u_l1, u_l2, u_l3, u_l4, u_l6, u_l7, u_l8, u_l9, u_l10, u_l14, u_l16, u_l18, u_l26, u_l31, u_l32, u_l36, u_l37, u_l40, u_l41, u_l42, u_l46, u_l48, u_l57, u_l58, u_l60, u_l61, u_l62, u_l63, u_l64, u_l65, u_l80, u_l90, u_l92, u_l95, u_l97, u_l120, u_l122, u_l126, u_l127, u_l320, u_l400, u_le, u_ix, u_sub, u_as, if_pos]
      rw [e3]
      unfold f_M_change_j125
      simp (disch := omega) only [fx_rm, fx_wm hb, Bool.false_eq_true, Option.bind_some, Option.map_some, rb_cI, rb_cL, rb_cR, rb_cV, reduceIte, ite_true, ite_false, not_true_eq_false, not_false_eq_true, true_and, and_true, Nat.reduceEqDiff, Nat.reduceAdd, Nat.reduceMul, Nat.add_sub_cancel, fx_II, fx_AA, fx_LL, fx_I_1, fx_I_A, fx_I_L, fx_I_R, fx_I_Q, fx_A_1, fx_A_A, fx_A_L, fx_A_R, fx_A_Q, fx_L_1, fx_L_A, fx_L_L, fx_L_R, fx_L_Q, fx_R_1, fx_R_A, fx_R_L, fx_R_R, fx_R_Q, fx_Q_1, fx_Q_A, fx_Q_L, fx_Q_R, fx_Q_Q, hm.1, u_as, u_l0]
      exact g3
    · simp only [fx_II, fx_AA, fx_LL, fx_I_1, fx_I_A, fx_I_L, fx_I_R, fx_I_Q, fx_A_1, fx_A_A, fx_A_L, fx_A_R, fx_A_Q, fx_L_1, fx_L_A, fx_L_L, fx_L_R, fx_L_Q, fx_R_1, fx_R_A, fx_R_L, fx_R_R, fx_R_Q, fx_Q_1, fx_Q_A, fx_Q_L, fx_Q_R, fx_Q_Q, Bool.false_eq_true, Option.bind_some, Option.map_some, rb_cI, rb_cL, rb_cR, rb_cV, reduceIte, ite_true, ite_false, not_true_eq_false, not_false_eq_true, true_and, and_true, Nat.reduceEqDiff, Nat.reduceAdd, Nat.reduceMul, Nat.add_sub_cancel]
      congr 1
      simp [slc_len h2]
      omega
    · simp only [fx_II, fx_AA, fx_LL, fx_I_1, fx_I_A, fx_I_L, fx_I_R, fx_I_Q, fx_A_1, fx_A_A, fx_A_L, fx_A_R, fx_A_Q, fx_L_1, fx_L_A, fx_L_L, fx_L_R, fx_L_Q, fx_R_1, fx_R_A, fx_R_L, fx_R_R, fx_R_Q, fx_Q_1, fx_Q_A, fx_Q_L, fx_Q_R, fx_Q_Q, Bool.false_eq_true, Option.bind_some, Option.map_some, rb_cI, rb_cL, rb_cR, rb_cV, reduceIte, ite_true, ite_false, not_true_eq_false, not_false_eq_true, true_and, and_true, Nat.reduceEqDiff, Nat.reduceAdd, Nat.reduceMul, Nat.add_sub_cancel]
      have hnl : (slc (bs T gv s) (ct + 1) nt).length = nt - ct - 1 := by rw [slc_len h2]; omega
      refine rk_of (by simp [hnl, g1]; omega) (fun i hi => ?_)
      have hi2 : i < o.length + (nt - ct - 1) - (t - a) := by
        simp [hnl] at hi
        omega
      rw [g2 i, e2 i, List.append_assoc]
      by_cases c1 : i < a
      · rw [if_neg (by omega), if_neg (by omega), rk_getD hm.2 (by omega)]
        simp only [List.getD]
        rw [List.getElem?_append_left (by simp; omega), List.getElem?_take_of_lt c1]
      · by_cases c2 : i < a + (nt - ct - 1)
        · rw [if_pos (by omega)]
          simp only [List.getD]
          rw [List.getElem?_append_right (by simp; omega), List.getElem?_append_left (by simp [hnl]; omega)]
          have hlen : (o.take a).length = a := by simp; omega
          rw [hlen]
          have := slc_get (l := bs T gv s) (p := ct + 1) (q := nt) (i := i - a) (by omega)
          simp only [List.getD] at this
          rw [this]
        · rw [if_neg (by omega), if_pos (by omega), rk_getD hm.2 (i := i + (t - a) - (nt - ct - 1)) (by omega)]
          simp only [List.getD]
          have hlen : (o.take a).length = a := by simp; omega
          rw [List.getElem?_append_right (by simp; omega), List.getElem?_append_right (by simp [hnl]; omega), hlen, hnl, List.getElem?_drop]
          congr 4
          omega
    · exact fx_lnI (fx_lnA hF g1)
    · exact fr_I (fr_A (fr_refl _ _ _ _) (by decide)) (by decide)
end
