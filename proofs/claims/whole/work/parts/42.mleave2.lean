/-! the reference: leave -/
section
variable {σ : rb_St} {b : Nat} {F : fx_F} {T : List Nat} {gv : Nat → Option (List Nat)}
theorem m_leave_j (hb : rb_b σ ≤ b) {l : Nat} (hl : F.1 3448 = nI (l + 1)) {x : Nat} (hx : x < 2) : f_M_leave_j192 (some (fx_ad b 34)) (nI x) (fx_mk σ b F) = some (some (.int (nI x)), fx_mk σ b (fx_I F 3448 (nI l))) := by
  have : rb_isZ (nI x) := by
    have : x = 0 ∨ x = 1 := by omega
    rcases this with rfl | rfl
    · exact Or.inl rfl
    · exact Or.inr rfl
  unfold f_M_leave_j192
  simp only [fx_rm, fx_wm hb, Bool.false_eq_true, Option.bind_some, Option.map_some, rb_cI, rb_cL, rb_cR, rb_cV, reduceIte, ite_true, ite_false, not_true_eq_false, not_false_eq_true, true_and, and_true, Nat.reduceEqDiff, Nat.reduceAdd, Nat.reduceMul, Nat.add_sub_cancel, hl, u_l1, u_sb1]
  rw [if_pos this]
theorem m_leave0 (hb : rb_b σ ≤ b) (hl : F.1 3448 = nI 0) : f_M_leave (some (fx_ad b 34)) (fx_mk σ b F) = some (some (.int (nI 1)), fx_mk σ b (fx_I F 3448 (-1))) := by
  unfold f_M_leave
  simp only [fx_rm, Bool.false_eq_true, Option.bind_some, Option.map_some, rb_cI, rb_cL, rb_cR, rb_cV, reduceIte, ite_true, ite_false, not_true_eq_false, not_false_eq_true, true_and, and_true, Nat.reduceEqDiff, Nat.reduceAdd, Nat.reduceMul, Nat.add_sub_cancel, hl]
  rw [if_pos (show nI 0 ≤ 0 by decide)]
  refine rb_it_r ?_
  unfold f_M_leave_b38
  simp only [fx_rm, Bool.false_eq_true, Option.bind_some, Option.map_some, rb_cI, rb_cL, rb_cR, rb_cV, reduceIte, ite_true, ite_false, not_true_eq_false, not_false_eq_true, true_and, and_true, Nat.reduceEqDiff, Nat.reduceAdd, Nat.reduceMul, Nat.add_sub_cancel]
  rw [if_neg (by decide), if_pos (Int32.le_refl _)]
  unfold f_M_leave_j192
  simp only [fx_rm, fx_wm hb, Bool.false_eq_true, Option.bind_some, Option.map_some, rb_cI, rb_cL, rb_cR, rb_cV, reduceIte, ite_true, ite_false, not_true_eq_false, not_false_eq_true, true_and, and_true, Nat.reduceEqDiff, Nat.reduceAdd, Nat.reduceMul, Nat.add_sub_cancel, hl]
  rfl
theorem m_leave1 (hb : rb_b σ ≤ b) {l : Nat} (hl6 : l < 6) (hl : F.1 3448 = nI (l + 1)) (hc : (F.2.1 69)[l + 1]? = some (-1)) : f_M_leave (some (fx_ad b 34)) (fx_mk σ b F) = some (some (.int (nI 1)), fx_mk σ b (fx_I F 3448 (nI l))) := by
  unfold f_M_leave
  simp (disch := omega) only [fx_rm, Bool.false_eq_true, Option.bind_some, Option.map_some, rb_cI, rb_cL, rb_cR, rb_cV, reduceIte, ite_true, ite_false, not_true_eq_false, not_false_eq_true, true_and, and_true, Nat.reduceEqDiff, Nat.reduceAdd, Nat.reduceMul, Nat.add_sub_cancel, hl]
  rw [if_neg (nI_nle (by omega) (by omega)), u_ix (by omega), hc]
  simp only [Bool.false_eq_true, Option.bind_some, Option.map_some, rb_cI, rb_cL, rb_cR, rb_cV, reduceIte, ite_true, ite_false, not_true_eq_false, not_false_eq_true, true_and, and_true, Nat.reduceEqDiff, Nat.reduceAdd, Nat.reduceMul, Nat.add_sub_cancel]
  rw [if_pos (show (-1 : Int32) < 0 by decide)]
  refine rb_it_m ?_
  unfold f_M_leave_b38
  simp only [fx_rm, Bool.false_eq_true, Option.bind_some, Option.map_some, rb_cI, rb_cL, rb_cR, rb_cV, reduceIte, ite_true, ite_false, not_true_eq_false, not_false_eq_true, true_and, and_true, Nat.reduceEqDiff, Nat.reduceAdd, Nat.reduceMul, Nat.add_sub_cancel]
  rw [if_neg (by decide), if_pos (Int32.le_refl _), show (1 : Int32) = nI 1 from rfl, m_leave_j hb hl (by decide)]
  rfl
theorem m_leave_step (hb : rb_b σ ≤ b) (hF : fx_ln F) (hT : m_text F T) (hT3 : T.length ≤ 320) (hTk : tk T) (hg : m_given F gv) (hgo : gok gv) {s : Option Nat} (hs : sok gv s) {l cf ct nt : Nat} (hl : l < 6) (hv : m_lv F l s cf ct nt) (h0 : cf ≤ ct) (h1 : ct < nt) (h2 : nt ≤ (bs T gv s).length) {o : List Nat} (ho : o.length ≤ 120) (hto : tk o) (hm : m_out F o) {p : Nat} (hp : p < o.length) : rb_it (fun z : (Int32) => f_M_leave_b52 (some (fx_ad b 34)) (nI 1) (z) (fx_mk σ b F)) (nI p) = f_M_leave_j107 (some (fx_ad b 34)) (nI 1) (nI (fi (fun k => decide (¬ o.getD k 0 = 32)) o.length p)) (nI (fi (fun k => decide (o.getD k 0 = 32)) o.length (fi (fun k => decide (¬ o.getD k 0 = 32)) o.length p))) (fx_mk σ b F) := by
  rw [it_fim (n := o.length) (fun k => decide (¬ o.getD k 0 = 32)) (fun k => f_M_leave_j77 (some (fx_ad b 34)) (nI 1) (nI k) (fx_mk σ b F)) ?_ ?_ (Nat.le_of_lt hp)]
  · have hq := fi_le (P := fun k => decide (¬ o.getD k 0 = 32)) (Nat.le_of_lt hp)
    generalize fi (fun k => decide (¬ o.getD k 0 = 32)) o.length p = q at hq ⊢
    unfold f_M_leave_j77
    rw [it_fim (n := o.length) (fun k => decide (o.getD k 0 = 32)) (fun k => f_M_leave_j107 (some (fx_ad b 34)) (nI 1) (nI q) (nI k) (fx_mk σ b F)) ?_ ?_ hq.2]
    · intro k hk
      have hc := ty_lt (tk_get hto hk)
      unfold f_M_leave_b80
      simp (disch := omega) only [fx_rm, Bool.false_eq_true, Option.bind_some, Option.map_some, rb_cI, rb_cL, rb_cR, rb_cV, reduceIte, ite_true, ite_false, not_true_eq_false, not_false_eq_true, true_and, and_true, Nat.reduceEqDiff, Nat.reduceAdd, Nat.reduceMul, Nat.add_sub_cancel, hm.1, u_l32, nI_1, u_lt, u_le, u_eq, u_add, u_ix, u_ixL, u_ixR, u_cl, u_nm1, u_nm1', u_m1l, u_m1n, if_pos, if_neg, rk_getD hm.2 hk, decide_eq_true_eq]
    · unfold f_M_leave_b80
      simp (disch := omega) only [fx_rm, Bool.false_eq_true, Option.bind_some, Option.map_some, rb_cI, rb_cL, rb_cR, rb_cV, reduceIte, ite_true, ite_false, not_true_eq_false, not_false_eq_true, true_and, and_true, Nat.reduceEqDiff, Nat.reduceAdd, Nat.reduceMul, Nat.add_sub_cancel, hm.1, u_l32, nI_1, u_lt, u_le, u_eq, u_add, u_ix, u_ixL, u_ixR, u_cl, u_nm1, u_nm1', u_m1l, u_m1n, if_pos, if_neg]
  · intro k hk
    have hc := ty_lt (tk_get hto hk)
    unfold f_M_leave_b52
    simp (disch := omega) only [fx_rm, Bool.false_eq_true, Option.bind_some, Option.map_some, rb_cI, rb_cL, rb_cR, rb_cV, reduceIte, ite_true, ite_false, not_true_eq_false, not_false_eq_true, true_and, and_true, Nat.reduceEqDiff, Nat.reduceAdd, Nat.reduceMul, Nat.add_sub_cancel, hm.1, u_l32, nI_1, u_lt, u_le, u_eq, u_add, u_ix, u_ixL, u_ixR, u_cl, u_nm1, u_nm1', u_m1l, u_m1n, if_pos, if_neg, rk_getD hm.2 hk, decide_eq_true_eq]
    by_cases e : o.getD k 0 = 32
    · rw [if_pos e, if_neg (fun h => h e)]
    · rw [if_neg e, if_pos e]
  · unfold f_M_leave_b52
    simp (disch := omega) only [fx_rm, Bool.false_eq_true, Option.bind_some, Option.map_some, rb_cI, rb_cL, rb_cR, rb_cV, reduceIte, ite_true, ite_false, not_true_eq_false, not_false_eq_true, true_and, and_true, Nat.reduceEqDiff, Nat.reduceAdd, Nat.reduceMul, Nat.add_sub_cancel, hm.1, u_l32, nI_1, u_lt, u_le, u_eq, u_add, u_ix, u_ixL, u_ixR, u_cl, u_nm1, u_nm1', u_m1l, u_m1n, if_pos, if_neg]
theorem slc_take {o : List Nat} {p q : Nat} (h : p ≤ q) : o.take q = o.take p ++ slc o p q := by
  unfold slc
  rw [show q = p + (q - p) by omega, List.take_add]
  simp
theorem m_leave_loop (hb : rb_b σ ≤ b) (hT3 : T.length ≤ 320) (hTk : tk T) (hgo : gok gv) {s : Option Nat} (hs : sok gv s) {l cf ct nt : Nat} (hl : l < 6) (h0 : cf ≤ ct) (h1 : ct < nt) (h2 : nt ≤ (bs T gv s).length) : ∀ (m : Nat) (F : fx_F) (o : List Nat) (p : Nat), o.length - p ≤ m → p ≤ o.length → o.length ≤ 120 → fx_ln F → m_text F T → m_given F gv → m_lv F l s cf ct nt → tk o → m_out F o → ∃ F', rb_it (fun z : (Int32 × Int32 × rb_St) => f_M_leave_b38 (some (fx_ad b 34)) (z.1) (z.2.1) z.2.2) (nI p, nI 1, fx_mk σ b F) = some (some (.int (if p + (rpF (slc (bs T gv s) cf ct) (slc (bs T gv s) (ct + 1) nt) [] (o.drop p)).length ≤ 120 then nI 1 else nI 0)), fx_mk σ b F') ∧ (p + (rpF (slc (bs T gv s) cf ct) (slc (bs T gv s) (ct + 1) nt) [] (o.drop p)).length ≤ 120 → m_out F' (o.take p ++ rpF (slc (bs T gv s) cf ct) (slc (bs T gv s) (ct + 1) nt) [] (o.drop p))) ∧ F'.1 3448 = nI l ∧ fx_ln F' ∧ fr [3444, 3448] [62] [] F F' := by
  have hbl := bs_len (T := T) (gv := gv) (s := s) hT3 hgo
  have hbt := bs_tk (T := T) (gv := gv) (s := s) hTk hgo
  have hul : (slc (bs T gv s) cf ct).length = ct - cf := slc_len (by omega)
  have hvl : (slc (bs T gv s) (ct + 1) nt).length = nt - ct - 1 := by rw [slc_len h2]; omega
  have hvt : tk (slc (bs T gv s) (ct + 1) nt) := slc_tk hbt _ _
  generalize hu : slc (bs T gv s) cf ct = u at hul ⊢
  generalize hvv : slc (bs T gv s) (ct + 1) nt = v at hvl hvt ⊢
  intro m
  induction m with
  | zero =>
    intro F o p hmp hp ho hF hT hg hv hto hm
    have e : p = o.length := by omega
    subst e
    have hr : rpF u v [] (o.drop o.length) = [] := by simp [rpF, fw_nil]
    rw [hr]
    refine ⟨fx_I F 3448 (nI l), ?_, fun _ => ?_, ?_, fx_lnI hF, fr_I (fr_refl _ _ _ _) (by decide)⟩
    · refine rb_it_m ?_
      unfold f_M_leave_b38
      simp only [fx_rm, Bool.false_eq_true, Option.bind_some, Option.map_some, rb_cI, rb_cL, rb_cR, rb_cV, reduceIte, ite_true, ite_false, not_true_eq_false, not_false_eq_true, true_and, and_true, Nat.reduceEqDiff, Nat.reduceAdd, Nat.reduceMul, Nat.add_sub_cancel, hm.1]
      rw [if_neg (by decide), if_pos (Int32.le_refl _), m_leave_j hb hv.1 (by decide), if_pos (by simpa using ho)]
      rfl
    · rw [List.take_length, List.append_nil]
      exact hm
    · simp [fx_II, fx_AA, fx_LL, fx_I_1, fx_I_A, fx_I_L, fx_I_R, fx_I_Q, fx_A_1, fx_A_A, fx_A_L, fx_A_R, fx_A_Q, fx_L_1, fx_L_A, fx_L_L, fx_L_R, fx_L_Q, fx_R_1, fx_R_A, fx_R_L, fx_R_R, fx_R_Q, fx_Q_1, fx_Q_A, fx_Q_L, fx_Q_R, fx_Q_Q]
  | succ m ih =>
    intro F o p hmp hp ho hF hT hg hv hto hm
    by_cases hpe : p = o.length
    · exact ih F o p (by omega) hp ho hF hT hg hv hto hm
    · have hb38 : f_M_leave_b38 (some (fx_ad b 34)) (nI p) (nI 1) (fx_mk σ b F) = f_M_leave_j107 (some (fx_ad b 34)) (nI 1) (nI (fi (fun k => decide (¬ o.getD k 0 = 32)) o.length p)) (nI (fi (fun k => decide (o.getD k 0 = 32)) o.length (fi (fun k => decide (¬ o.getD k 0 = 32)) o.length p))) (fx_mk σ b F) := by
        unfold f_M_leave_b38
        simp only [fx_rm, Bool.false_eq_true, Option.bind_some, Option.map_some, rb_cI, rb_cL, rb_cR, rb_cV, reduceIte, ite_true, ite_false, not_true_eq_false, not_false_eq_true, true_and, and_true, Nat.reduceEqDiff, Nat.reduceAdd, Nat.reduceMul, Nat.add_sub_cancel, hm.1]
        rw [if_neg (by decide), if_neg (nI_ge (by omega) (by omega)), m_leave_step hb hF hT hT3 hTk hg hgo hs hl hv h0 h1 h2 ho hto hm (by omega)]
      rw [rp_step u v hp]
      have hq1 := fi_le (P := fun k => decide (¬ o.getD k 0 = 32)) hp
      have hqP := fi_P (P := fun k => decide (¬ o.getD k 0 = 32)) (n := o.length) (k := p)
      generalize hq : fi (fun k => decide (¬ o.getD k 0 = 32)) o.length p = q at hq1 hqP hb38 ⊢
      have hr1 := fi_le (P := fun k => decide (o.getD k 0 = 32)) hq1.2
      have hrP := fi_P (P := fun k => decide (o.getD k 0 = 32)) (n := o.length) (k := q)
      generalize hr : fi (fun k => decide (o.getD k 0 = 32)) o.length q = r at hr1 hrP hb38 ⊢
      have hqr : q = r → r = o.length := by
        intro e
        subst e
        by_cases h3 : q < o.length
        · have g1 := hqP h3
          have g2 := hrP h3
          simp only [decide_eq_true_eq] at g1 g2
          exact absurd g2 g1
        · omega
      have hsl1 : (slc o p q).length = q - p := slc_len hq1.2
      have hsl2 : (slc o q r).length = r - q := slc_len hr1.2
      unfold f_M_leave_j107 at hb38
      simp (disch := omega) only [fx_rm, Bool.false_eq_true, Option.bind_some, Option.map_some, rb_cI, rb_cL, rb_cR, rb_cV, reduceIte, ite_true, ite_false, not_true_eq_false, not_false_eq_true, true_and, and_true, Nat.reduceEqDiff, Nat.reduceAdd, Nat.reduceMul, Nat.add_sub_cancel, hv.1, hv.2.2.1, hv.2.2.2.1, hv.2.2.2.2, u_ix, u_sub, u_le] at hb38
      have same : fw u v (slc o q r) = slc o q r → f_M_leave_b38 (some (fx_ad b 34)) (nI p) (nI 1) (fx_mk σ b F) = some (.inl (nI r, nI 1, fx_mk σ b F)) → ∃ F', rb_it (fun z : (Int32 × Int32 × rb_St) => f_M_leave_b38 (some (fx_ad b 34)) (z.1) (z.2.1) z.2.2) (nI p, nI 1, fx_mk σ b F) = some (some (.int (if p + (slc o p q ++ fw u v (slc o q r) ++ rpF u v [] (o.drop r)).length ≤ 120 then nI 1 else nI 0)), fx_mk σ b F') ∧ (p + (slc o p q ++ fw u v (slc o q r) ++ rpF u v [] (o.drop r)).length ≤ 120 → m_out F' (o.take p ++ (slc o p q ++ fw u v (slc o q r) ++ rpF u v [] (o.drop r)))) ∧ F'.1 3448 = nI l ∧ fx_ln F' ∧ fr [3444, 3448] [62] [] F F' := by
        intro hsame hst
        obtain ⟨F', e1, e2, e3, e4, e5⟩ := ih F o r (by omega) hr1.2 ho hF hT hg hv hto hm
        have hlen : p + (slc o p q ++ fw u v (slc o q r) ++ rpF u v [] (o.drop r)).length = r + (rpF u v [] (o.drop r)).length := by
          rw [hsame]
          simp only [List.length_append, hsl1, hsl2]
          omega
        rw [hlen]
        refine ⟨F', ?_, fun h => ?_, e3, e4, e5⟩
        · rw [rb_it_l hst]
          exact e1
        · have := e2 h
          rw [hsame, ← List.append_assoc, ← List.append_assoc, ← slc_take hq1.1, ← slc_take hr1.1]
          exact this
      by_cases hrq : r ≤ q
      · rw [if_pos hrq] at hb38
        refine same ?_ hb38
        have : slc o q r = [] := List.eq_nil_of_length_eq_zero (by omega)
        rw [this, fw_nil]
      · rw [if_neg hrq, m_endsSo hT hT3 hTk hg hgo hs hl hv h0 (by omega) ho hto hm hr1.1 hr1.2] at hb38
        simp only [rb_cI, hu] at hb38
        have hne : slc o q r ≠ [] := fun h => by
          rw [h] at hsl2
          simp at hsl2
          omega
        by_cases hsx : sfx u (slc o q r) = true
        · rw [if_pos hsx, if_neg (show ¬ nI 1 = 0 by decide)] at hb38
          have hsu : ct - cf ≤ r - q := by
            unfold sfx at hsx
            simp only [Bool.and_eq_true, decide_eq_true_eq] at hsx
            omega
          have hfw : fw u v (slc o q r) = slc o q (r - (ct - cf)) ++ v := by
            unfold fw
            rw [if_pos ⟨hne, hsx⟩, hsl2, hul]
            unfold slc
            rw [List.take_take]
            congr 2
            omega
          have hfl : (fw u v (slc o q r)).length = r - (ct - cf) - q + (nt - ct - 1) := by
            rw [hfw, List.length_append, slc_len (by omega), hvl]
          obtain ⟨k1, k2⟩ := m_change (σ := σ) (b := b) hb hF hT hT3 hg hgo hs hl hv h1 h2 ho hm (a := r - (ct - cf)) (t := r) (by omega) (by omega) hr1.2
          by_cases hfit : o.length + (nt - ct - 1) - (r - (r - (ct - cf))) ≤ 120
          · obtain ⟨F1, c1, c2, c3, c4⟩ := k2 hfit
            rw [hvv] at c2
            have hstep : f_M_leave_b38 (some (fx_ad b 34)) (nI p) (nI 1) (fx_mk σ b F) = some (.inl (nI (r - (ct - cf) + (nt - ct - 1)), nI 1, fx_mk σ b F1)) := by
              rw [hb38]
              simp (disch := omega) only [fx_rm, Bool.false_eq_true, Option.bind_some, Option.map_some, rb_cI, rb_cL, rb_cR, rb_cV, reduceIte, ite_true, ite_false, not_true_eq_false, not_false_eq_true, true_and, and_true, Nat.reduceEqDiff, Nat.reduceAdd, Nat.reduceMul, Nat.add_sub_cancel, hv.1, hv.2.2.1, hv.2.2.2.1, hv.2.2.2.2, u_ix, u_l1, u_add, u_sub]
              rw [c1]
              simp only [rb_cI]
              rw [show r - (ct - cf) + nt - ct - 1 = r - (ct - cf) + (nt - ct - 1) by omega]
            have hol : (o.take (r - (ct - cf)) ++ v ++ o.drop r).length = r - (ct - cf) + (nt - ct - 1) + (o.length - r) := by
              simp only [List.length_append, List.length_take, List.length_drop, hvl]
              omega
            have hta : (o.take (r - (ct - cf)) ++ v).length = r - (ct - cf) + (nt - ct - 1) := by
              simp only [List.length_append, List.length_take, hvl]
              omega
            have hdr : (o.take (r - (ct - cf)) ++ v ++ o.drop r).drop (r - (ct - cf) + (nt - ct - 1)) = o.drop r := by
              rw [← hta, List.drop_left]
            have htk2 : (o.take (r - (ct - cf)) ++ v ++ o.drop r).take (r - (ct - cf) + (nt - ct - 1)) = o.take (r - (ct - cf)) ++ v := by
              rw [← hta, List.take_left]
            have hT' : m_text F1 T := by
              unfold m_text
              rw [c4.2.1 46 (by decide)]
              exact hT
            have hg' : m_given F1 gv := by
              unfold m_given
              rw [c4.2.1 40 (by decide), c4.2.1 41 (by decide), c4.2.1 42 (by decide)]
              exact hg
            have hv' : m_lv F1 l s cf ct nt := by
              unfold m_lv
              rw [c4.1 3448 (by decide), c4.2.1 65 (by decide), c4.2.1 69 (by decide), c4.2.1 70 (by decide), c4.2.1 71 (by decide)]
              exact hv
            obtain ⟨F', e1, e2, e3, e4, e5⟩ := ih F1 (o.take (r - (ct - cf)) ++ v ++ o.drop r) (r - (ct - cf) + (nt - ct - 1)) (by omega) (by omega) (by omega) c3 hT' hg' hv' (tk_app (tk_app (tk_take hto _) hvt) (tk_drop hto _)) c2
            rw [hdr] at e1 e2
            rw [htk2] at e2
            have hlen : p + (slc o p q ++ fw u v (slc o q r) ++ rpF u v [] (o.drop r)).length = r - (ct - cf) + (nt - ct - 1) + (rpF u v [] (o.drop r)).length := by
              simp only [List.length_append, hsl1, hfl]
              omega
            rw [hlen]
            refine ⟨F', ?_, fun h => ?_, e3, e4, fr_trans (fr_mono c4 (by simp) (by simp) (by simp)) e5⟩
            · rw [rb_it_l hstep]
              exact e1
            · have := e2 h
              rw [hfw]
              have hcat : o.take p ++ (slc o p q ++ (slc o q (r - (ct - cf)) ++ v) ++ rpF u v [] (o.drop r)) = o.take (r - (ct - cf)) ++ v ++ rpF u v [] (o.drop r) := by
                rw [slc_take (o := o) (p := q) (q := r - (ct - cf)) (by omega), slc_take (o := o) hq1.1]
                simp only [List.append_assoc]
              rw [hcat]
              exact this
          · have c1 := k1 (by omega)
            have hstep : f_M_leave_b38 (some (fx_ad b 34)) (nI p) (nI 1) (fx_mk σ b F) = some (.inl (nI (r - (ct - cf) + (nt - ct - 1)), nI 0, fx_mk σ b F)) := by
              rw [hb38]
              simp (disch := omega) only [fx_rm, Bool.false_eq_true, Option.bind_some, Option.map_some, rb_cI, rb_cL, rb_cR, rb_cV, reduceIte, ite_true, ite_false, not_true_eq_false, not_false_eq_true, true_and, and_true, Nat.reduceEqDiff, Nat.reduceAdd, Nat.reduceMul, Nat.add_sub_cancel, hv.1, hv.2.2.1, hv.2.2.2.1, hv.2.2.2.2, u_ix, u_l1, u_add, u_sub]
              rw [c1]
              simp only [rb_cI]
              rw [show r - (ct - cf) + nt - ct - 1 = r - (ct - cf) + (nt - ct - 1) by omega]
            have hmono := rpF_len (u := u) (v := v) (by omega) (o.drop r) []
            have hbig : ¬ p + (slc o p q ++ fw u v (slc o q r) ++ rpF u v [] (o.drop r)).length ≤ 120 := by
              simp only [List.length_append, hsl1, hfl]
              simp only [List.length_nil, List.length_drop] at hmono
              omega
            rw [if_neg hbig]
            refine ⟨fx_I F 3448 (nI l), ?_, fun h => absurd h hbig, by simp [fx_II, fx_AA, fx_LL, fx_I_1, fx_I_A, fx_I_L, fx_I_R, fx_I_Q, fx_A_1, fx_A_A, fx_A_L, fx_A_R, fx_A_Q, fx_L_1, fx_L_A, fx_L_L, fx_L_R, fx_L_Q, fx_R_1, fx_R_A, fx_R_L, fx_R_R, fx_R_Q, fx_Q_1, fx_Q_A, fx_Q_L, fx_Q_R, fx_Q_Q], fx_lnI hF, fr_I (fr_refl _ _ _ _) (by decide)⟩
            rw [rb_it_l hstep]
            refine rb_it_m ?_
            unfold f_M_leave_b38
            simp only
            rw [if_pos (show nI 0 = 0 from rfl), m_leave_j hb hv.1 (by decide)]
        · rw [if_neg hsx, if_pos (show nI 0 = 0 from rfl)] at hb38
          refine same ?_ hb38
          unfold fw
          rw [if_neg (fun h => hsx h.2)]
end
