/-! the reference: a dollar -/
theorem it_fim2 {α τ : Type} {body : Int32 × τ → Option ((Int32 × τ) ⊕ α)} {n : Nat} {s0 : τ} (P : Nat → Bool) (res : Nat → Option α) (h : ∀ k, k < n → body (nI k, s0) = if P k = true then (res k).map Sum.inr else some (.inl (nI (k + 1), s0))) (he : body (nI n, s0) = (res n).map Sum.inr) {k : Nat} (hk : k ≤ n) : rb_it body (nI k, s0) = res (fi P n k) := by
  have key : ∀ m k, k + m = n → rb_it body (nI k, s0) = match sr P m k with | some j => res j | none => res n := by
    intro m
    induction m with
    | zero =>
      intro k hk
      rw [show k = n by omega]
      exact rb_it_m he
    | succ m ih =>
      intro k hk
      have hb := h k (by omega)
      by_cases hp : P k = true
      · rw [if_pos hp] at hb
        rw [sr_pos hp]
        exact rb_it_m hb
      · rw [if_neg hp] at hb
        rw [sr_neg (by simpa using hp), rb_it_l hb]
        exact ih (k + 1) (by omega)
  rw [key (n - k) k (by omega)]
  unfold fi
  cases sr P (n - k) k <;> rfl
theorem sr_shift (P : Nat → Bool) (q : Nat) : ∀ (m k : Nat), sr P m (q + k) = (sr (fun j => P (q + j)) m k).map (fun j => q + j)
  | 0, _ => rfl
  | m + 1, k => by
    by_cases h : P (q + k) = true
    · rw [sr_pos h, sr_pos (P := fun j => P (q + j)) h]
      rfl
    · have h' : P (q + k) = false := by simpa using h
      rw [sr_neg h', sr_neg (P := fun j => P (q + j)) h', ← sr_shift P q m (k + 1)]
      rfl
theorem fi_shift (P : Nat → Bool) {q e k : Nat} (h : q ≤ e) : fi P e (q + k) = q + fi (fun j => P (q + j)) (e - q) k := by
  unfold fi
  rw [show e - (q + k) = e - q - k by omega, sr_shift]
  cases sr (fun j => P (q + j)) (e - q - k) k with
  | none => simp only [Option.map_none]; omega
  | some j => rfl
theorem fi_congr {P Q : Nat → Bool} {n k : Nat} (h : ∀ j, k ≤ j → j < n → P j = Q j) : fi P n k = fi Q n k := by
  unfold fi
  rw [sr_congr (fun j h1 h2 => h j h1 (by omega))]
theorem slc_slc {l : List Nat} {q e i j : Nat} (h : q + j ≤ e) : slc (slc l q e) i j = slc l (q + i) (q + j) := by
  unfold slc
  rw [List.drop_take, List.drop_drop, List.take_take]
  congr 1
  omega
theorem slc_drop2 {l : List Nat} {q e i : Nat} : (slc l q e).drop i = slc l (q + i) e := by
  unfold slc
  rw [List.drop_take, List.drop_drop]
  congr 1
  omega
section
variable {σ : rb_St} {b : Nat} {F : fx_F} {T : List Nat} {gv df : Nat → Option (List Nat)}
/-- a macro entered from level l -/
def m_ent (T : List Nat) (gv df : Nat → Option (List Nat)) (F F' : fx_F) (l : Nat) (s : Option Nat) (e : Nat) (o : List Nat) (m : Nat) (rp : Option (List Nat × List Nat)) (r : List Nat) : Prop := ∃ s' p' e', sok gv s' ∧ m_at F' (l + 1) s' p' e' ∧ p' ≤ e' ∧ e' ≤ (bs T gv s').length ∧ slc (bs T gv s') p' e' = vl gv df m ∧ (F'.2.1 66)[l]? = some (nI (e - r.length)) ∧ (F'.2.1 68)[l + 1]? = some (nI o.length) ∧ (rp = none → (F'.2.1 69)[l + 1]? = some (-1)) ∧ (∀ u v, rp = some (u, v) → ∃ cf ct nt, cf ≤ ct ∧ ct < nt ∧ nt ≤ (bs T gv s).length ∧ (F'.2.1 69)[l + 1]? = some (nI cf) ∧ (F'.2.1 70)[l + 1]? = some (nI ct) ∧ (F'.2.1 71)[l + 1]? = some (nI nt) ∧ u = slc (bs T gv s) cf ct ∧ v = slc (bs T gv s) (ct + 1) nt) ∧ stk l F F' ∧ fx_ln F' ∧ fr zI zA [] F F' ∧ m_out F' o
/-- what the reference needs to know of its texts -/
def m_rd (T : List Nat) (gv df : Nat → Option (List Nat)) (F : fx_F) : Prop := m_text F T ∧ T.length ≤ 320 ∧ tk T ∧ m_given F gv ∧ gok gv ∧ m_defd F T df
theorem m_rd_fr {F F' : fx_F} (h : m_rd T gv df F) (hf : fr zI zA [] F F') : m_rd T gv df F' := by
  obtain ⟨h1, h2, h3, h4, h5, h6⟩ := h
  refine ⟨?_, h2, h3, ?_, h5, ?_⟩
  · unfold m_text
    rw [hf.2.1 46 (by decide)]
    exact h1
  · unfold m_given
    rw [hf.2.1 40 (by decide), hf.2.1 41 (by decide), hf.2.1 42 (by decide)]
    exact h4
  · unfold m_defd
    rw [hf.2.1 43 (by decide), hf.2.1 44 (by decide), hf.2.1 45 (by decide)]
    exact h6
/-- entering, from a place -/
theorem m_go (hb : rb_b σ ≤ b) (hF : fx_ln F) (hR : m_rd T gv df F) {o : List Nat} (hm : m_out F o) {l : Nat} (hl6 : l < 6) {s : Option Nat} {p e : Nat} (ha : m_at F l s p e) {m : Nat} (hm26 : m < 26) {r : List Nat} {q : Nat} (hr : q = e - r.length) (x2 x3 x4 : Int32) (rp : Option (List Nat × List Nat)) (h1 : rp = none → x2 = -1) (h2 : ∀ u v, rp = some (u, v) → ∃ cf ct nt, cf ≤ ct ∧ ct < nt ∧ nt ≤ (bs T gv s).length ∧ x2 = nI cf ∧ x3 = nI ct ∧ x4 = nI nt ∧ u = slc (bs T gv s) cf ct ∧ v = slc (bs T gv s) (ct + 1) nt) : ∃ F', f_M_enter (some (fx_ad b 34)) (nI m) x2 x3 x4 (fx_mk σ b (fx_A F 66 ((F.2.1 66).set l (nI q)))) = some (some (.int (nI 1)), fx_mk σ b F') ∧ m_ent T gv df F F' l s e o m rp r := by
  have h66 := hF.1 66
  simp only [fx_cI] at h66
  have hR' := m_rd_fr hR (fr_A (zi := zI) (za := zA) (zl := []) (fr_refl _ _ _ F) (z := 66) (x := (F.2.1 66).set l (nI q)) (by decide))
  obtain ⟨F', s', p', e', k1, k2, k3, k4, k5, k6, k7, k8, k9, k10, k11, k12, k13⟩ := m_enter (σ := σ) (b := b) (F := fx_A F 66 ((F.2.1 66).set l (nI q))) hb (fx_lnA hF (by rw [List.length_set]; exact hF.1 _)) hR'.2.1 hR'.2.2.2.1 hR'.2.2.2.2.1 hR'.2.2.2.2.2 (l := l) (L := o.length) hl6 ha.1 hm.1 hm26 x2 x3 x4
  refine ⟨F', k1, s', p', e', k2, k3, k4, k5, k6, ?_, k7, fun h => by rw [k8, h1 h], fun u v h => ?_, ?_, k12, ?_, ?_⟩
  · rw [k11 66 l (by decide) (by decide) (Nat.le_refl _)]
    simp only [fx_II, fx_AA, fx_LL, fx_I_1, fx_I_A, fx_I_L, fx_I_R, fx_I_Q, fx_A_1, fx_A_A, fx_A_L, fx_A_R, fx_A_Q, fx_L_1, fx_L_A, fx_L_L, fx_L_R, fx_L_Q, fx_R_1, fx_R_A, fx_R_L, fx_R_R, fx_R_Q, fx_Q_1, fx_Q_A, fx_Q_L, fx_Q_R, fx_Q_Q, Bool.false_eq_true, Option.bind_some, Option.map_some, rb_cI, rb_cL, rb_cR, rb_cV, reduceIte, ite_true, ite_false, not_true_eq_false, not_false_eq_true, true_and, and_true, Nat.reduceEqDiff, Nat.reduceAdd, Nat.reduceMul, Nat.add_sub_cancel]
    rw [set_get (by omega), if_pos rfl, hr]
  · obtain ⟨cf, ct, nt, j1, j2, j3, j4, j5, j6, j7, j8⟩ := h2 u v h
    exact ⟨cf, ct, nt, j1, j2, j3, by rw [k8, j4], by rw [k9, j5], by rw [k10, j6], j7, j8⟩
  · intro o' j q1 q2 q3 q4
    rw [k11 o' j q1 q2 q3]
    by_cases e66 : o' = 66
    · subst e66
      simp only [fx_II, fx_AA, fx_LL, fx_I_1, fx_I_A, fx_I_L, fx_I_R, fx_I_Q, fx_A_1, fx_A_A, fx_A_L, fx_A_R, fx_A_Q, fx_L_1, fx_L_A, fx_L_L, fx_L_R, fx_L_Q, fx_R_1, fx_R_A, fx_R_L, fx_R_R, fx_R_Q, fx_Q_1, fx_Q_A, fx_Q_L, fx_Q_R, fx_Q_Q, Bool.false_eq_true, Option.bind_some, Option.map_some, rb_cI, rb_cL, rb_cR, rb_cV, reduceIte, ite_true, ite_false, not_true_eq_false, not_false_eq_true, true_and, and_true, Nat.reduceEqDiff, Nat.reduceAdd, Nat.reduceMul, Nat.add_sub_cancel]
      rw [set_get (by omega), if_neg (q4 rfl)]
    · rw [fx_A_A, if_neg e66]
  · exact fr_trans (fr_A (fr_refl _ _ _ _) (by decide)) (fr_mono k13 (by simp) (by simp) (by simp))
  · refine ⟨?_, ?_⟩
    · rw [k13.1 3444 (by decide)]
      exact hm.1
    · rw [k13.2.1 62 (by decide)]
      exact hm.2
theorem m_fail (hb : rb_b σ ≤ b) (hF : fx_ln F) (x1 x2 x3 x4 : Int32) {l q : Nat} (hl : F.1 3448 = nI 6) : f_M_enter (some (fx_ad b 34)) x1 x2 x3 x4 (fx_mk σ b (fx_A F 66 ((F.2.1 66).set l (nI q)))) = some (some (.int (nI 0)), fx_mk σ b (fx_A F 66 ((F.2.1 66).set l (nI q)))) := m_enter6 (F := fx_A F 66 ((F.2.1 66).set l (nI q))) hl x1 x2 x3 x4
theorem m_paren (hb : rb_b σ ≤ b) (hF : fx_ln F) (hR : m_rd T gv df F) {o : List Nat} (hm : m_out F o) {l : Nat} (hl6 : l ≤ 6) {s : Option Nat} (hs : sok gv s) {q e : Nat} (ha : m_at F l s q e) (hqe : q ≤ e) (he : e ≤ (bs T gv s).length) : match brk (slc (bs T gv s) q e) with
    | some (.inr (m, rp), r) => (l < 6 → ∃ F', f_M_parenthesis (some (fx_ad b 34)) (fx_mk σ b F) = some (some (.int (nI 1)), fx_mk σ b F') ∧ m < 26 ∧ m_ent T gv df F F' l s e o m rp r) ∧ (l = 6 → ∃ F', f_M_parenthesis (some (fx_ad b 34)) (fx_mk σ b F) = some (some (.int (nI 0)), fx_mk σ b F') ∧ fx_ln F' ∧ fr zI zA [] F F')
    | some (.inl _, _) => False
    | none => ∃ F', f_M_parenthesis (some (fx_ad b 34)) (fx_mk σ b F) = some (some (.int (nI 0)), fx_mk σ b F') ∧ fx_ln F' ∧ fr zI zA [] F F' := by
  obtain ⟨hT, hT3, hTk, hg, hgo, hd⟩ := hR
  have hR : m_rd T gv df F := ⟨hT, hT3, hTk, hg, hgo, hd⟩
  have hbl := bs_len (T := T) (gv := gv) (s := s) hT3 hgo
  have hbt := bs_tk (T := T) (gv := gv) (s := s) hTk hgo
  have h66 := hF.1 66
  simp only [fx_cI] at h66
  obtain ⟨a1, a2, a3, a4⟩ := ha
  have hch : ∀ k, k < (bs T gv s).length → f_M_charAt (some (fx_ad b 34)) (nI l) (nI k) (fx_mk σ b F) = some (some (.int (nI ((bs T gv s).getD k 0))), fx_mk σ b F) := fun k hk => m_charAt hT hg hgo hs (by omega) a2 hk hT3
  have hrl : (slc (bs T gv s) q e).length = e - q := slc_len he
  have hlnA : ∀ k, fx_ln (fx_A F 66 ((F.2.1 66).set l (nI k))) := fun k => fx_lnA hF (by rw [List.length_set]; exact hF.1 _)
  have hfrA : ∀ k, fr zI zA [] F (fx_A F 66 ((F.2.1 66).set l (nI k))) := fun k => fr_A (fr_refl _ _ _ _) (by decide)
  have run0 : f_M_parenthesis (some (fx_ad b 34)) (fx_mk σ b F) = (if e ≤ q + 1 then (some (some (.int (nI 0)), fx_mk σ b F)) else if cap ((bs T gv s).getD q 0) = false then (some (some (.int (nI 0)), fx_mk σ b F)) else if (bs T gv s).getD (q + 1) 0 = 41 then (rb_cI (f_M_enter (some (fx_ad b 34)) (nI ((bs T gv s).getD q 0 - 65)) (-1) (-1) (-1) (fx_mk σ b (fx_A F 66 ((F.2.1 66).set l (nI (q + 2)))))) fun x_21 σ_22 => if rb_isZ x_21 then some (some (.int x_21), σ_22) else none) else f_M_parenthesis_j176 (some (fx_ad b 34)) (nI q) (nI e) (nI ((bs T gv s).getD q 0 - 65)) (nI ((bs T gv s).getD (q + 1) 0)) (nI (fi (fun k => decide ((bs T gv s).getD k 0 = 61 ∨ (bs T gv s).getD k 0 = 41)) e (q + 2))) (nI (fi (fun k => decide ((bs T gv s).getD k 0 = 41)) e (fi (fun k => decide ((bs T gv s).getD k 0 = 61 ∨ (bs T gv s).getD k 0 = 41)) e (q + 2)))) (fx_mk σ b F)) := by
    unfold f_M_parenthesis
    by_cases c1 : e ≤ q + 1
    · simp (disch := omega) only [fx_rm, Bool.false_eq_true, Option.bind_some, Option.map_some, rb_cI, rb_cL, rb_cR, rb_cV, reduceIte, ite_true, ite_false, not_true_eq_false, not_false_eq_true, true_and, and_true, Nat.reduceEqDiff, Nat.reduceAdd, Nat.reduceMul, Nat.add_sub_cancel, a1, a3, a4, u_l0, u_l1, u_l2, u_l3, u_l4, u_l6, u_l7, u_l8, u_l9, u_l10, u_l14, u_l16, u_l18, u_l26, u_l31, u_l32, u_l36, u_l37, u_l40, u_l41, u_l42, u_l46, u_l48, u_l57, u_l58, u_l60, u_l61, u_l62, u_l63, u_l64, u_l65, u_l80, u_l90, u_l92, u_l95, u_l97, u_l120, u_l122, u_l126, u_l127, u_l320, u_l400, nI_1, u_lt, u_le, u_eq, u_add, u_ix, u_ixL, u_ixR, u_cl, u_nm1, u_nm1', u_m1l, u_m1n, if_pos, if_neg]
    · have hc0 := ty_lt (tk_get hbt (k := q) (by omega))
      have hc1 := ty_lt (tk_get hbt (k := q + 1) (by omega))
      simp (disch := omega) only [fx_rm, Bool.false_eq_true, Option.bind_some, Option.map_some, rb_cI, rb_cL, rb_cR, rb_cV, reduceIte, ite_true, ite_false, not_true_eq_false, not_false_eq_true, true_and, and_true, Nat.reduceEqDiff, Nat.reduceAdd, Nat.reduceMul, Nat.add_sub_cancel, a1, a3, a4, u_l0, u_l1, u_l2, u_l3, u_l4, u_l6, u_l7, u_l8, u_l9, u_l10, u_l14, u_l16, u_l18, u_l26, u_l31, u_l32, u_l36, u_l37, u_l40, u_l41, u_l42, u_l46, u_l48, u_l57, u_l58, u_l60, u_l61, u_l62, u_l63, u_l64, u_l65, u_l80, u_l90, u_l92, u_l95, u_l97, u_l120, u_l122, u_l126, u_l127, u_l320, u_l400, nI_1, u_lt, u_le, u_eq, u_add, u_ix, u_ixL, u_ixR, u_cl, u_nm1, u_nm1', u_m1l, u_m1n, if_pos, if_neg, hch q (by omega), hch (q + 1) (by omega), m_capital _ (show (bs T gv s).getD q 0 < 65536 by omega)]
      by_cases c2 : cap ((bs T gv s).getD q 0) = true
      · have c3 : 65 ≤ (bs T gv s).getD q 0 := by
          unfold cap at c2
          simp only [decide_eq_true_eq] at c2
          exact c2.1
        simp (disch := omega) only [c2, Bool.false_eq_true, Option.bind_some, Option.map_some, rb_cI, rb_cL, rb_cR, rb_cV, reduceIte, ite_true, ite_false, not_true_eq_false, not_false_eq_true, true_and, and_true, Nat.reduceEqDiff, Nat.reduceAdd, Nat.reduceMul, Nat.add_sub_cancel, u_l0, nI_1, u_lt, u_le, u_eq, u_add, u_ix, u_ixL, u_ixR, u_cl, u_nm1, u_nm1', u_m1l, u_m1n, if_pos, if_neg, reduceCtorEq, fx_rm, fx_wm hb, u_sub, u_nar2]
        by_cases c4 : (bs T gv s).getD (q + 1) 0 = 41
        · rw [if_pos c4, if_pos c4]
        · rw [if_neg c4, if_neg c4]
          rw [it_fim2 (n := e) (s0 := fx_mk σ b F) (fun k => decide ((bs T gv s).getD k 0 = 61 ∨ (bs T gv s).getD k 0 = 41)) (fun k => f_M_parenthesis_j145 (some (fx_ad b 34)) (nI q) (nI e) (nI ((bs T gv s).getD q 0 - 65)) (nI ((bs T gv s).getD (q + 1) 0)) (nI k) (fx_mk σ b F)) ?_ ?_ (show q + 2 ≤ e by omega)]
          · have hle := fi_le (P := fun k => decide ((bs T gv s).getD k 0 = 61 ∨ (bs T gv s).getD k 0 = 41)) (show q + 2 ≤ e by omega)
            generalize fi (fun k => decide ((bs T gv s).getD k 0 = 61 ∨ (bs T gv s).getD k 0 = 41)) e (q + 2) = q1 at hle ⊢
            unfold f_M_parenthesis_j145
            rw [it_fim2 (n := e) (s0 := fx_mk σ b F) (fun k => decide ((bs T gv s).getD k 0 = 41)) (fun k => f_M_parenthesis_j176 (some (fx_ad b 34)) (nI q) (nI e) (nI ((bs T gv s).getD q 0 - 65)) (nI ((bs T gv s).getD (q + 1) 0)) (nI q1) (nI k) (fx_mk σ b F)) ?_ ?_ hle.2]
            · intro k hk
              have hc := ty_lt (tk_get hbt (k := k) (by omega))
              unfold f_M_parenthesis_b149
              simp (disch := omega) only [fx_rm, Bool.false_eq_true, Option.bind_some, Option.map_some, rb_cI, rb_cL, rb_cR, rb_cV, reduceIte, ite_true, ite_false, not_true_eq_false, not_false_eq_true, true_and, and_true, Nat.reduceEqDiff, Nat.reduceAdd, Nat.reduceMul, Nat.add_sub_cancel, a1, u_l0, u_l1, u_l2, u_l3, u_l4, u_l6, u_l7, u_l8, u_l9, u_l10, u_l14, u_l16, u_l18, u_l26, u_l31, u_l32, u_l36, u_l37, u_l40, u_l41, u_l42, u_l46, u_l48, u_l57, u_l58, u_l60, u_l61, u_l62, u_l63, u_l64, u_l65, u_l80, u_l90, u_l92, u_l95, u_l97, u_l120, u_l122, u_l126, u_l127, u_l320, u_l400, nI_1, u_lt, u_le, u_eq, u_add, u_ix, u_ixL, u_ixR, u_cl, u_nm1, u_nm1', u_m1l, u_m1n, if_pos, if_neg, hch k (by omega), decide_eq_true_eq]
            · unfold f_M_parenthesis_b149
              simp (disch := omega) only [nI_1, u_lt, u_le, u_eq, u_add, u_ix, u_ixL, u_ixR, u_cl, u_nm1, u_nm1', u_m1l, u_m1n, if_pos, if_neg]
          · intro k hk
            have hc := ty_lt (tk_get hbt (k := k) (by omega))
            unfold f_M_parenthesis_b103
            simp (disch := omega) only [fx_rm, Bool.false_eq_true, Option.bind_some, Option.map_some, rb_cI, rb_cL, rb_cR, rb_cV, reduceIte, ite_true, ite_false, not_true_eq_false, not_false_eq_true, true_and, and_true, Nat.reduceEqDiff, Nat.reduceAdd, Nat.reduceMul, Nat.add_sub_cancel, a1, u_l0, u_l1, u_l2, u_l3, u_l4, u_l6, u_l7, u_l8, u_l9, u_l10, u_l14, u_l16, u_l18, u_l26, u_l31, u_l32, u_l36, u_l37, u_l40, u_l41, u_l42, u_l46, u_l48, u_l57, u_l58, u_l60, u_l61, u_l62, u_l63, u_l64, u_l65, u_l80, u_l90, u_l92, u_l95, u_l97, u_l120, u_l122, u_l126, u_l127, u_l320, u_l400, nI_1, u_lt, u_le, u_eq, u_add, u_ix, u_ixL, u_ixR, u_cl, u_nm1, u_nm1', u_m1l, u_m1n, if_pos, if_neg, hch k (by omega), decide_eq_true_eq]
            by_cases d1 : (bs T gv s).getD k 0 = 61
            · rw [if_pos d1, if_pos (Or.inl d1)]
            · rw [if_neg d1]
              by_cases d2 : (bs T gv s).getD k 0 = 41
              · rw [if_pos d2, if_pos (Or.inr d2)]
              · rw [if_neg d2, if_neg (fun h => h.elim d1 d2)]
          · unfold f_M_parenthesis_b103
            simp (disch := omega) only [nI_1, u_lt, u_le, u_eq, u_add, u_ix, u_ixL, u_ixR, u_cl, u_nm1, u_nm1', u_m1l, u_m1n, if_pos, if_neg]
      · simp (disch := omega) only [c2, Bool.false_eq_true, Option.bind_some, Option.map_some, rb_cI, rb_cL, rb_cR, rb_cV, reduceIte, ite_true, ite_false, not_true_eq_false, not_false_eq_true, true_and, and_true, Nat.reduceEqDiff, Nat.reduceAdd, Nat.reduceMul, Nat.add_sub_cancel, nI_1, u_lt, u_le, u_eq, u_add, u_ix, u_ixL, u_ixR, u_cl, u_nm1, u_nm1', u_m1l, u_m1n, if_pos, if_neg]
  by_cases c1 : e ≤ q + 1
  · have hbk : brk (slc (bs T gv s) q e) = none := by
      unfold brk
      rw [if_pos (Or.inl (by omega))]
    rw [hbk]
    exact ⟨F, by rw [run0, if_pos c1], hF, fr_refl _ _ _ _⟩
  · rw [if_neg c1] at run0
    have g0 : (slc (bs T gv s) q e).getD 0 0 = (bs T gv s).getD q 0 := slc_get (by omega)
    have g1 : (slc (bs T gv s) q e).getD 1 0 = (bs T gv s).getD (q + 1) 0 := slc_get (by omega)
    by_cases c2 : cap ((bs T gv s).getD q 0) = false
    · have hbk : brk (slc (bs T gv s) q e) = none := by
        unfold brk
        rw [if_pos (Or.inr (by rw [g0]; exact c2))]
      rw [hbk]
      exact ⟨F, by rw [run0, if_pos c2], hF, fr_refl _ _ _ _⟩
    · rw [if_neg c2] at run0
      have c3 : 65 ≤ (bs T gv s).getD q 0 ∧ (bs T gv s).getD q 0 ≤ 90 := by
        unfold cap at c2
        simpa using c2
      by_cases c4 : (bs T gv s).getD (q + 1) 0 = 41
      · rw [if_pos c4] at run0
        have hbk : brk (slc (bs T gv s) q e) = some (.inr ((bs T gv s).getD q 0 - 65, none), slc (bs T gv s) (q + 2) e) := by
          unfold brk
          rw [if_neg (fun h => h.elim (fun h => by omega) (fun h => c2 (by rw [← g0]; exact h))), if_pos (by rw [g1]; exact c4), g0, slc_drop2]
        rw [hbk]
        refine ⟨fun hl => ?_, fun hl => ?_⟩
        · obtain ⟨F', k1, k2⟩ := m_go (σ := σ) (b := b) hb hF hR hm hl ⟨a1, a2, a3, a4⟩ (m := (bs T gv s).getD q 0 - 65) (by omega) (r := slc (bs T gv s) (q + 2) e) (q := q + 2) (by rw [slc_len he]; omega) (-1) (-1) (-1) none (fun _ => rfl) (fun u v h => by cases h)
          refine ⟨F', ?_, by omega, k2⟩
          rw [run0, k1]
          rfl
        · subst hl
          refine ⟨_, ?_, hlnA (q + 2), hfrA (q + 2)⟩
          rw [run0, m_fail hb hF _ _ _ _ a1]
          rfl
      · rw [if_neg c4] at run0
        have f1 : fi (fun k => decide ((bs T gv s).getD k 0 = 61 ∨ (bs T gv s).getD k 0 = 41)) e (q + 2) = q + fi (fun k => decide ((slc (bs T gv s) q e).getD k 0 = 61 ∨ (slc (bs T gv s) q e).getD k 0 = 41)) (slc (bs T gv s) q e).length 2 := by
          rw [fi_shift _ hqe, hrl]
          congr 1
          refine fi_congr (fun j h1 h2 => ?_)
          rw [slc_get h2]
        have f2 : fi (fun k => decide ((bs T gv s).getD k 0 = 41)) e (q + fi (fun k => decide ((slc (bs T gv s) q e).getD k 0 = 61 ∨ (slc (bs T gv s) q e).getD k 0 = 41)) (slc (bs T gv s) q e).length 2) = q + fi (fun k => decide ((slc (bs T gv s) q e).getD k 0 = 41)) (slc (bs T gv s) q e).length (fi (fun k => decide ((slc (bs T gv s) q e).getD k 0 = 61 ∨ (slc (bs T gv s) q e).getD k 0 = 41)) (slc (bs T gv s) q e).length 2) := by
          rw [fi_shift _ hqe, hrl]
          congr 1
          refine fi_congr (fun j h1 h2 => ?_)
          rw [slc_get h2]
        rw [f1, f2] at run0
        have hle1 := fi_le (P := fun k => decide ((slc (bs T gv s) q e).getD k 0 = 61 ∨ (slc (bs T gv s) q e).getD k 0 = 41)) (show 2 ≤ (slc (bs T gv s) q e).length by omega)
        have hle2 := fi_le (P := fun k => decide ((slc (bs T gv s) q e).getD k 0 = 41)) hle1.2
        unfold brk
        rw [if_neg (fun h => h.elim (fun h => by omega) (fun h => c2 (by rw [← g0]; exact h))), if_neg (by rw [g1]; exact c4), g0, g1]
        generalize fi (fun k => decide ((slc (bs T gv s) q e).getD k 0 = 61 ∨ (slc (bs T gv s) q e).getD k 0 = 41)) (slc (bs T gv s) q e).length 2 = i1 at hle1 hle2 run0 ⊢
        generalize fi (fun k => decide ((slc (bs T gv s) q e).getD k 0 = 41)) (slc (bs T gv s) q e).length i1 = i2 at hle2 run0 ⊢
        rw [hrl] at hle1 hle2 ⊢
        have hc1 := ty_lt (tk_get hbt (k := q + 1) (by omega))
        have no : f_M_parenthesis (some (fx_ad b 34)) (fx_mk σ b F) = some (some (.int (nI 0)), fx_mk σ b F) → ∃ F', f_M_parenthesis (some (fx_ad b 34)) (fx_mk σ b F) = some (some (.int (nI 0)), fx_mk σ b F') ∧ fx_ln F' ∧ fr zI zA [] F F' := fun h => ⟨F, h, hF, fr_refl _ _ _ _⟩
        unfold f_M_parenthesis_j176 at run0
        simp (disch := omega) only [u_l0, u_l1, u_l2, u_l3, u_l4, u_l6, u_l7, u_l8, u_l9, u_l10, u_l14, u_l16, u_l18, u_l26, u_l31, u_l32, u_l36, u_l37, u_l40, u_l41, u_l42, u_l46, u_l48, u_l57, u_l58, u_l60, u_l61, u_l62, u_l63, u_l64, u_l65, u_l80, u_l90, u_l92, u_l95, u_l97, u_l120, u_l122, u_l126, u_l127, u_l320, u_l400, u_eq, u_le] at run0
        by_cases k1 : (bs T gv s).getD (q + 1) 0 = 58
        · rw [if_pos k1] at run0
          by_cases k2 : e ≤ q + i2
          · rw [if_pos k2] at run0
            rw [if_neg (fun h => by omega)]
            exact no run0
          · rw [if_neg k2] at run0
            by_cases k3 : q + i1 = q + i2
            · rw [if_pos k3] at run0
              rw [if_neg (fun h => by omega)]
              exact no run0
            · rw [if_neg k3] at run0
              rw [if_pos ⟨k1, by omega, by omega⟩]
              simp (disch := omega) only [fx_rm, fx_wm hb, Bool.false_eq_true, Option.bind_some, Option.map_some, rb_cI, rb_cL, rb_cR, rb_cV, reduceIte, ite_true, ite_false, not_true_eq_false, not_false_eq_true, true_and, and_true, Nat.reduceEqDiff, Nat.reduceAdd, Nat.reduceMul, Nat.add_sub_cancel, a1, u_l0, nI_1, u_lt, u_le, u_eq, u_add, u_ix, u_ixL, u_ixR, u_cl, u_nm1, u_nm1', u_m1l, u_m1n, if_pos, if_neg, u_nar2] at run0
              simp only
              refine ⟨fun hl => ?_, fun hl => ?_⟩
              · obtain ⟨F', j1, j2⟩ := m_go (σ := σ) (b := b) hb hF hR hm hl ⟨a1, a2, a3, a4⟩ (m := (bs T gv s).getD q 0 - 65) (by omega) (r := (slc (bs T gv s) q e).drop (i2 + 1)) (q := q + i2 + 1) (by rw [slc_drop2, slc_len he]; omega) (nI (q + 2)) (nI (q + i1)) (nI (q + i2)) (some (slc (slc (bs T gv s) q e) 2 i1, slc (slc (bs T gv s) q e) (i1 + 1) i2)) (fun h => by cases h) (fun u v h => by
                  cases h
                  refine ⟨q + 2, q + i1, q + i2, by omega, by omega, by omega, rfl, rfl, rfl, ?_, ?_⟩
                  · exact slc_slc (by omega)
                  · rw [slc_slc (by omega)]
                    rfl)
                refine ⟨F', ?_, by omega, j2⟩
                rw [run0, j1]
                rfl
              · subst hl
                refine ⟨_, ?_, hlnA (q + i2 + 1), hfrA (q + i2 + 1)⟩
                rw [run0, m_fail hb hF _ _ _ _ a1]
                rfl
        · rw [if_neg k1] at run0
          rw [if_neg (fun h => k1 h.1)]
          exact no run0
end
