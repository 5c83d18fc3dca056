/-! the reference: given macros, edit, erase -/
def cap (c : Nat) : Bool := decide (65 ≤ c ∧ c ≤ 90)
theorem m_capital (σ : rb_St) {c : Nat} (h : c < 65536) : f_M_capital (nI c) σ = some (some (.int (if cap c = true then nI 1 else nI 0)), σ) := by
  unfold f_M_capital cap
  simp only [decide_eq_true_eq]
  simp (disch := omega) only [u_l65, u_l90, u_l0, u_l1, u_lt]
  repeat' split
  all_goals first | rfl | (exfalso; omega)
/-- a row with numbers written into it -/
def wrs (row : List Int32) (p : Nat) (l : List Nat) : List Int32 := (List.range row.length).map fun i => if p ≤ i ∧ i < p + l.length then nI (l.getD (i - p) 0) else row.getD i 0
theorem wrs_len (row : List Int32) (p : Nat) (l : List Nat) : (wrs row p l).length = row.length := by simp [wrs]
theorem wrs_get {row : List Int32} {p i : Nat} {l : List Nat} (h : i < row.length) : (wrs row p l)[i]? = some (if p ≤ i ∧ i < p + l.length then nI (l.getD (i - p) 0) else row.getD i 0) := by
  unfold wrs
  rw [List.getElem?_map, List.getElem?_range h]
  rfl
theorem wrs_nil (row : List Int32) (p : Nat) : wrs row p [] = row := by
  apply List.ext_getElem?
  intro i
  by_cases h : i < row.length
  · rw [wrs_get h, if_neg (by simp), List.getElem?_eq_getElem h, getD_get h]
  · rw [List.getElem?_eq_none (by rw [wrs_len]; omega), List.getElem?_eq_none (by omega)]
theorem wrs_push {row : List Int32} {p : Nat} {l : List Nat} (c : Nat) (h : p + l.length < row.length) : (wrs row p l).set (p + l.length) (nI c) = wrs row p (l ++ [c]) := by
  apply List.ext_getElem?
  intro i
  rw [set_get (by rw [wrs_len]; exact h)]
  by_cases hi : i < row.length
  · rw [wrs_get hi, wrs_get hi]
    by_cases e : i = p + l.length
    · subst e
      rw [if_pos rfl, if_pos (by simp), show p + l.length - p = l.length by omega, getD_app_r]
    · rw [if_neg e]
      by_cases h2 : p ≤ i ∧ i < p + l.length
      · rw [if_pos h2, if_pos (by simp; omega), getD_app_l (by omega)]
      · rw [if_neg h2, if_neg (by simp; omega)]
  · rw [if_neg (by omega), List.getElem?_eq_none (by rw [wrs_len]; omega), List.getElem?_eq_none (by rw [wrs_len]; omega)]
def m_given (F : fx_F) (gv : Nat → Option (List Nat)) : Prop := ∀ m, m < 26 → (F.2.1 40)[m]? = some (nI (if gv m = none then 0 else 1)) ∧ ∀ v, gv m = some v → (F.2.1 42)[m]? = some (nI v.length) ∧ ∀ j, j < v.length → (F.2.1 41)[16 * m + j]? = some (nI (v.getD j 0))
/-- the values that may be given -/
def gok (gv : Nat → Option (List Nat)) : Prop := ∀ m v, gv m = some v → v.length ≤ 16 ∧ tk v
/-- whether a draft may be set -/
def x_set (d : List Nat) : Bool := decide (2 ≤ d.length ∧ d.length ≤ 18 ∧ cap (d.getD 0 0) = true ∧ d.getD 1 0 = 61) && (sr (fun k => decide (d.getD k 0 = 10)) (d.length - 2) 2).isNone
section
variable {σ : rb_St} {b : Nat} {F : fx_F}
theorem m_set_copy (hb : rb_b σ ≤ b) {d : List Nat} (hl : 2 ≤ d.length) (h18 : d.length ≤ 18) {m : Nat} (hm : m < 26) : ∀ (n k : Nat) (F : fx_F), k + n = d.length → 2 ≤ k → fx_ln F → m_draft F d → F.2.1 41 = wrs (F.2.1 41) (16 * m) ((d.drop 2).take (k - 2)) → ∃ F', rb_it (fun z : (Int32 × rb_St) => f_M_set_b83 (some (fx_ad b 34)) (nI m) (z.1) z.2) (nI k, fx_mk σ b F) = some (some (.int (nI 1)), fx_mk σ b F') ∧ F'.2.1 41 = wrs (F.2.1 41) (16 * m) (d.drop 2) ∧ F'.2.1 42 = (F.2.1 42).set m (nI (d.length - 2)) ∧ F'.2.1 40 = (F.2.1 40).set m (nI 1) ∧ F'.1 3401 = nI 0 ∧ fx_ln F' ∧ fr [3401] [40, 41, 42] [] F F' := by
  intro n
  induction n with
  | zero =>
    intro k F hk h2 hF hd hw
    have h42 := hF.1 42
    have h40 := hF.1 40
    simp only [fx_cI] at h42 h40
    refine ⟨fx_I (fx_A (fx_A F 42 ((F.2.1 42).set m (nI (d.length - 2)))) 40 ((F.2.1 40).set m (nI 1))) 3401 (nI 0), ?_, ?_, ?_, ?_, ?_, ?_, ?_⟩
    · refine rb_it_r ?_
      unfold f_M_set_b83
      simp (disch := omega) only [fx_rm, fx_wm hb, Bool.false_eq_true, Option.bind_some, Option.map_some, rb_cI, rb_cL, rb_cR, rb_cV, reduceIte, ite_true, ite_false, not_true_eq_false, not_false_eq_true, true_and, and_true, Nat.reduceEqDiff, Nat.reduceAdd, Nat.reduceMul, Nat.add_sub_cancel, fx_II, fx_AA, fx_LL, fx_I_1, fx_I_A, fx_I_L, fx_I_R, fx_I_Q, fx_A_1, fx_A_A, fx_A_L, fx_A_R, fx_A_Q, fx_L_1, fx_L_A, fx_L_L, fx_L_R, fx_L_Q, fx_R_1, fx_R_A, fx_R_L, fx_R_R, fx_R_Q, fx_Q_1, fx_Q_A, fx_Q_L, fx_Q_R, fx_Q_Q, hd.1, u_l0, u_l1, u_l2, u_l3, u_l4, u_l6, u_l7, u_l8, u_l9, u_l10, u_l14, u_l16, u_l18, u_l26, u_l31, u_l32, u_l36, u_l37, u_l40, u_l41, u_l42, u_l46, u_l48, u_l57, u_l58, u_l60, u_l61, u_l62, u_l63, u_l64, u_l65, u_l80, u_l90, u_l92, u_l95, u_l97, u_l120, u_l122, u_l126, u_l127, u_l320, u_l400, nI_1, u_lt, u_le, u_eq, u_add, u_ix, u_ixL, u_ixR, u_cl, u_nm1, u_nm1', u_m1l, u_m1n, if_pos, if_neg, u_nar2, u_nar4, u_sub]
    · simp only [fx_II, fx_AA, fx_LL, fx_I_1, fx_I_A, fx_I_L, fx_I_R, fx_I_Q, fx_A_1, fx_A_A, fx_A_L, fx_A_R, fx_A_Q, fx_L_1, fx_L_A, fx_L_L, fx_L_R, fx_L_Q, fx_R_1, fx_R_A, fx_R_L, fx_R_R, fx_R_Q, fx_Q_1, fx_Q_A, fx_Q_L, fx_Q_R, fx_Q_Q, Bool.false_eq_true, Option.bind_some, Option.map_some, rb_cI, rb_cL, rb_cR, rb_cV, reduceIte, ite_true, ite_false, not_true_eq_false, not_false_eq_true, true_and, and_true, Nat.reduceEqDiff, Nat.reduceAdd, Nat.reduceMul, Nat.add_sub_cancel]
      rw [List.take_of_length_le (by simp; omega)] at hw
      exact hw
    · simp only [fx_II, fx_AA, fx_LL, fx_I_1, fx_I_A, fx_I_L, fx_I_R, fx_I_Q, fx_A_1, fx_A_A, fx_A_L, fx_A_R, fx_A_Q, fx_L_1, fx_L_A, fx_L_L, fx_L_R, fx_L_Q, fx_R_1, fx_R_A, fx_R_L, fx_R_R, fx_R_Q, fx_Q_1, fx_Q_A, fx_Q_L, fx_Q_R, fx_Q_Q, Bool.false_eq_true, Option.bind_some, Option.map_some, rb_cI, rb_cL, rb_cR, rb_cV, reduceIte, ite_true, ite_false, not_true_eq_false, not_false_eq_true, true_and, and_true, Nat.reduceEqDiff, Nat.reduceAdd, Nat.reduceMul, Nat.add_sub_cancel]
    · simp only [fx_II, fx_AA, fx_LL, fx_I_1, fx_I_A, fx_I_L, fx_I_R, fx_I_Q, fx_A_1, fx_A_A, fx_A_L, fx_A_R, fx_A_Q, fx_L_1, fx_L_A, fx_L_L, fx_L_R, fx_L_Q, fx_R_1, fx_R_A, fx_R_L, fx_R_R, fx_R_Q, fx_Q_1, fx_Q_A, fx_Q_L, fx_Q_R, fx_Q_Q, Bool.false_eq_true, Option.bind_some, Option.map_some, rb_cI, rb_cL, rb_cR, rb_cV, reduceIte, ite_true, ite_false, not_true_eq_false, not_false_eq_true, true_and, and_true, Nat.reduceEqDiff, Nat.reduceAdd, Nat.reduceMul, Nat.add_sub_cancel]
    · simp only [fx_II, fx_AA, fx_LL, fx_I_1, fx_I_A, fx_I_L, fx_I_R, fx_I_Q, fx_A_1, fx_A_A, fx_A_L, fx_A_R, fx_A_Q, fx_L_1, fx_L_A, fx_L_L, fx_L_R, fx_L_Q, fx_R_1, fx_R_A, fx_R_L, fx_R_R, fx_R_Q, fx_Q_1, fx_Q_A, fx_Q_L, fx_Q_R, fx_Q_Q, Bool.false_eq_true, Option.bind_some, Option.map_some, rb_cI, rb_cL, rb_cR, rb_cV, reduceIte, ite_true, ite_false, not_true_eq_false, not_false_eq_true, true_and, and_true, Nat.reduceEqDiff, Nat.reduceAdd, Nat.reduceMul, Nat.add_sub_cancel]
    · exact fx_lnI (fx_lnA (fx_lnA hF (by rw [List.length_set]; exact hF.1 _)) (by rw [List.length_set]; exact hF.1 _))
    · exact fr_I (fr_A (fr_A (fr_refl _ _ _ _) (by decide)) (by decide)) (by decide)
  | succ n ih =>
    intro k F hk h2 hF hd hw
    have h41 := hF.1 41
    simp only [fx_cI] at h41
    have hlen : ((d.drop 2).take (k - 2)).length = k - 2 := by simp; omega
    have hc : (d.drop 2).getD (k - 2) 0 = d.getD k 0 := by
      simp only [List.getD, List.getElem?_drop]
      rw [show 2 + (k - 2) = k by omega]
    have hstep : (F.2.1 41).set (16 * m + k - 2) (nI (d.getD k 0)) = wrs (F.2.1 41) (16 * m) ((d.drop 2).take (k + 1 - 2)) := by
      conv => lhs; rw [hw]
      rw [show 16 * m + k - 2 = 16 * m + ((d.drop 2).take (k - 2)).length by omega, wrs_push _ (by omega), show k + 1 - 2 = (k - 2) + 1 by omega, take_succ (d := 0) (by simp; omega), hc]
    have hself : ∀ l : List Nat, (wrs (F.2.1 41) (16 * m) ((d.drop 2).take (k + 1 - 2))).length = 416 := fun _ => by rw [wrs_len]; exact h41
    have hidem : ∀ (q : List Nat), (d.drop 2).take (k + 1 - 2) <+: q → wrs (wrs (F.2.1 41) (16 * m) ((d.drop 2).take (k + 1 - 2))) (16 * m) q = wrs (F.2.1 41) (16 * m) q := by
      intro q hq
      apply List.ext_getElem?
      intro i
      by_cases hi : i < (F.2.1 41).length
      · rw [wrs_get (by rw [wrs_len]; exact hi), wrs_get hi]
        by_cases h3 : 16 * m ≤ i ∧ i < 16 * m + q.length
        · rw [if_pos h3, if_pos h3]
        · rw [if_neg h3, if_neg h3]
          have hql := hq.length_le
          congr 1
          have e := wrs_get (row := F.2.1 41) (p := 16 * m) (l := (d.drop 2).take (k + 1 - 2)) hi
          rw [if_neg (by omega)] at e
          simp only [List.getD, e]
          rfl
      · rw [List.getElem?_eq_none (by rw [wrs_len, wrs_len]; omega), List.getElem?_eq_none (by rw [wrs_len]; omega)]
    obtain ⟨F', e1, e2, e3, e4, e5, e6, e7⟩ := ih (k + 1) (fx_A F 41 (wrs (F.2.1 41) (16 * m) ((d.drop 2).take (k + 1 - 2)))) (by omega) (by omega) (fx_lnA hF (hself [])) ⟨hd.1, by rw [fx_A_A, if_neg (by decide)]; exact hd.2⟩ (by
      rw [fx_A_A, if_pos rfl]
      exact (hidem _ (List.prefix_refl _)).symm)
    refine ⟨F', ?_, ?_, ?_, ?_, e5, e6, fr_trans (fr_A (fr_refl _ _ _ _) (by decide)) e7⟩
    · rw [← e1]
      refine rb_it_l ?_
      unfold f_M_set_b83
      simp (disch := omega) only [fx_rm, fx_wm hb, Bool.false_eq_true, Option.bind_some, Option.map_some, rb_cI, rb_cL, rb_cR, rb_cV, reduceIte, ite_true, ite_false, not_true_eq_false, not_false_eq_true, true_and, and_true, Nat.reduceEqDiff, Nat.reduceAdd, Nat.reduceMul, Nat.add_sub_cancel, hd.1, u_l0, u_l1, u_l2, u_l3, u_l4, u_l6, u_l7, u_l8, u_l9, u_l10, u_l14, u_l16, u_l18, u_l26, u_l31, u_l32, u_l36, u_l37, u_l40, u_l41, u_l42, u_l46, u_l48, u_l57, u_l58, u_l60, u_l61, u_l62, u_l63, u_l64, u_l65, u_l80, u_l90, u_l92, u_l95, u_l97, u_l120, u_l122, u_l126, u_l127, u_l320, u_l400, nI_1, u_lt, u_le, u_eq, u_add, u_ix, u_ixL, u_ixR, u_cl, u_nm1, u_nm1', u_m1l, u_m1n, if_pos, if_neg, u_mul, rk_getD hd.2 (i := k) (by omega), u_sub, u_nar2, hstep]
    · rw [e2, fx_A_A, if_pos rfl]
      exact hidem _ (List.take_prefix _ _)
    · rw [e3, fx_A_A, if_neg (by decide)]
    · rw [e4, fx_A_A, if_neg (by decide)]
theorem m_set (hb : rb_b σ ≤ b) (hF : fx_ln F) {d : List Nat} (hd : d.length ≤ 320) (ht : tk d) (hm : m_draft F d) {gv : Nat → Option (List Nat)} (hg : m_given F gv) (hgo : gok gv) : ∃ F', f_M_set (some (fx_ad b 34)) (fx_mk σ b F) = some (some (.int (if x_set d = true then nI 1 else nI 0)), fx_mk σ b F') ∧ m_draft F' (if x_set d = true then [] else d) ∧ m_given F' (if x_set d = true then up1 gv (d.getD 0 0 - 65) (some (d.drop 2)) else gv) ∧ fx_ln F' ∧ fr [3401] [40, 41, 42] [] F F' := by
  have h40 := hF.1 40
  have h41 := hF.1 41
  have h42 := hF.1 42
  simp only [fx_cI] at h40 h41 h42
  have no : x_set d = false → f_M_set (some (fx_ad b 34)) (fx_mk σ b F) = some (some (.int (nI 0)), fx_mk σ b F) → ∃ F', f_M_set (some (fx_ad b 34)) (fx_mk σ b F) = some (some (.int (if x_set d = true then nI 1 else nI 0)), fx_mk σ b F') ∧ m_draft F' (if x_set d = true then [] else d) ∧ m_given F' (if x_set d = true then up1 gv (d.getD 0 0 - 65) (some (d.drop 2)) else gv) ∧ fx_ln F' ∧ fr [3401] [40, 41, 42] [] F F' := by
    intro h1 h2
    refine ⟨F, ?_, ?_, ?_, hF, fr_refl _ _ _ _⟩
    · rw [h2, h1]; rfl
    · rw [h1]; exact hm
    · rw [h1]; exact hg
  by_cases h1 : 2 ≤ d.length ∧ d.length ≤ 18
  · have hc0 := ty_lt (tk_get ht (k := 0) (by omega))
    have hc1 := ty_lt (tk_get ht (k := 1) (by omega))
    by_cases h2 : cap (d.getD 0 0) = true ∧ d.getD 1 0 = 61
    · have hm0 : 65 ≤ d.getD 0 0 ∧ d.getD 0 0 ≤ 90 := by
        have := h2.1
        unfold cap at this
        simpa using this
      obtain ⟨F', e1, e2, e3, e4, e5, e6, e7⟩ := m_set_copy (σ := σ) (b := b) hb h1.1 h1.2 (m := d.getD 0 0 - 65) (by omega) (d.length - 2) 2 F (by omega) (by omega) hF hm (by simp [wrs_nil])
      have run : f_M_set (some (fx_ad b 34)) (fx_mk σ b F) = some (match sr (fun k => decide (d.getD k 0 = 10)) (d.length - 2) 2 with | some j => (some (.int (nI 0)), fx_mk σ b F) | none => (some (.int (nI 1)), fx_mk σ b F')) := by
        unfold f_M_set
        simp (disch := omega) only [fx_rm, Bool.false_eq_true, Option.bind_some, Option.map_some, rb_cI, rb_cL, rb_cR, rb_cV, reduceIte, ite_true, ite_false, not_true_eq_false, not_false_eq_true, true_and, and_true, Nat.reduceEqDiff, Nat.reduceAdd, Nat.reduceMul, Nat.add_sub_cancel, hm.1, u_l0, u_l1, u_l2, u_l3, u_l4, u_l6, u_l7, u_l8, u_l9, u_l10, u_l14, u_l16, u_l18, u_l26, u_l31, u_l32, u_l36, u_l37, u_l40, u_l41, u_l42, u_l46, u_l48, u_l57, u_l58, u_l60, u_l61, u_l62, u_l63, u_l64, u_l65, u_l80, u_l90, u_l92, u_l95, u_l97, u_l120, u_l122, u_l126, u_l127, u_l320, u_l400, nI_1, u_lt, u_le, u_eq, u_add, u_ix, u_ixL, u_ixR, u_cl, u_nm1, u_nm1', u_m1l, u_m1n, if_pos, if_neg, rk_getD hm.2 (i := 0) (by omega), rk_getD hm.2 (i := 1) (by omega), m_capital _ (show d.getD 0 0 < 65536 by omega), h2.1, h2.2]
        rw [it_sr (n := d.length) (fun k => decide (d.getD k 0 = 10)) (fun k => (some (.int (nI 0)), fx_mk σ b F)) (some (.int (nI 1)), fx_mk σ b F') ?_ ?_ (d.length - 2) 2 (by omega)]
        · rfl
        · intro k hk
          have hck := ty_lt (tk_get ht (k := k) hk)
          unfold f_M_set_b44
          simp (disch := omega) only [fx_rm, Bool.false_eq_true, Option.bind_some, Option.map_some, rb_cI, rb_cL, rb_cR, rb_cV, reduceIte, ite_true, ite_false, not_true_eq_false, not_false_eq_true, true_and, and_true, Nat.reduceEqDiff, Nat.reduceAdd, Nat.reduceMul, Nat.add_sub_cancel, hm.1, u_l0, u_l1, u_l2, u_l3, u_l4, u_l6, u_l7, u_l8, u_l9, u_l10, u_l14, u_l16, u_l18, u_l26, u_l31, u_l32, u_l36, u_l37, u_l40, u_l41, u_l42, u_l46, u_l48, u_l57, u_l58, u_l60, u_l61, u_l62, u_l63, u_l64, u_l65, u_l80, u_l90, u_l92, u_l95, u_l97, u_l120, u_l122, u_l126, u_l127, u_l320, u_l400, nI_1, u_lt, u_le, u_eq, u_add, u_ix, u_ixL, u_ixR, u_cl, u_nm1, u_nm1', u_m1l, u_m1n, if_pos, if_neg, rk_getD hm.2 hk, decide_eq_true_eq]
        · unfold f_M_set_b44
          simp (disch := omega) only [fx_rm, Bool.false_eq_true, Option.bind_some, Option.map_some, rb_cI, rb_cL, rb_cR, rb_cV, reduceIte, ite_true, ite_false, not_true_eq_false, not_false_eq_true, true_and, and_true, Nat.reduceEqDiff, Nat.reduceAdd, Nat.reduceMul, Nat.add_sub_cancel, hm.1, u_l0, u_l1, u_l2, u_l3, u_l4, u_l6, u_l7, u_l8, u_l9, u_l10, u_l14, u_l16, u_l18, u_l26, u_l31, u_l32, u_l36, u_l37, u_l40, u_l41, u_l42, u_l46, u_l48, u_l57, u_l58, u_l60, u_l61, u_l62, u_l63, u_l64, u_l65, u_l80, u_l90, u_l92, u_l95, u_l97, u_l120, u_l122, u_l126, u_l127, u_l320, u_l400, nI_1, u_lt, u_le, u_eq, u_add, u_ix, u_ixL, u_ixR, u_cl, u_nm1, u_nm1', u_m1l, u_m1n, if_pos, if_neg, rk_getD hm.2 (i := 0) (by omega), u_sub, e1, Nat.le_refl]
      cases hs : sr (fun k => decide (d.getD k 0 = 10)) (d.length - 2) 2 with
      | some j =>
        refine no ?_ ?_
        · unfold x_set
          rw [hs]
          simp
        · rw [run, hs]
      | none =>
        have hx : x_set d = true := by
          unfold x_set
          rw [hs]
          simp only [h2.1, h2.2, h1.1, h1.2]
          rfl
        rw [hx]
        refine ⟨F', ?_, ⟨e5, rk_nil _⟩, ?_, e6, e7⟩
        · rw [run, hs]
          rfl
        · intro m hmm
          obtain ⟨g1, g2⟩ := hg m hmm
          simp only [if_true]
          rw [e2, e3, e4, set_get (by omega), set_get (by omega)]
          unfold up1
          by_cases e : m = d.getD 0 0 - 65
          · rw [if_pos e, if_pos e, if_pos e]
            refine ⟨by simp, fun v hv => ?_⟩
            cases hv
            refine ⟨by simp, fun j hj => ?_⟩
            have hj2 : j < d.length - 2 := by simpa using hj
            rw [wrs_get (by omega), if_pos (by rw [e]; omega), show 16 * m + j - 16 * (d.getD 0 0 - 65) = j by rw [e]; omega]
          · rw [if_neg e, if_neg e, if_neg e]
            refine ⟨g1, fun v hv => ?_⟩
            obtain ⟨g3, g4⟩ := g2 v hv
            have g5 := (hgo m v hv).1
            refine ⟨g3, fun j hj => ?_⟩
            rw [← g4 j hj]
            have hi : 16 * m + j < (F.2.1 41).length := by omega
            rw [wrs_get hi, if_neg (by rw [List.length_drop]; omega), getD_get hi, List.getElem?_eq_getElem hi]
    · refine no ?_ ?_
      · unfold x_set
        rw [decide_eq_false (fun q => h2 q.2.2), Bool.false_and]
      · unfold f_M_set
        simp (disch := omega) only [fx_rm, Bool.false_eq_true, Option.bind_some, Option.map_some, rb_cI, rb_cL, rb_cR, rb_cV, reduceIte, ite_true, ite_false, not_true_eq_false, not_false_eq_true, true_and, and_true, Nat.reduceEqDiff, Nat.reduceAdd, Nat.reduceMul, Nat.add_sub_cancel, hm.1, u_l0, u_l1, u_l2, u_l3, u_l4, u_l6, u_l7, u_l8, u_l9, u_l10, u_l14, u_l16, u_l18, u_l26, u_l31, u_l32, u_l36, u_l37, u_l40, u_l41, u_l42, u_l46, u_l48, u_l57, u_l58, u_l60, u_l61, u_l62, u_l63, u_l64, u_l65, u_l80, u_l90, u_l92, u_l95, u_l97, u_l120, u_l122, u_l126, u_l127, u_l320, u_l400, nI_1, u_lt, u_le, u_eq, u_add, u_ix, u_ixL, u_ixR, u_cl, u_nm1, u_nm1', u_m1l, u_m1n, if_pos, if_neg, rk_getD hm.2 (i := 0) (by omega), rk_getD hm.2 (i := 1) (by omega), m_capital _ (show d.getD 0 0 < 65536 by omega)]
        by_cases hcap : cap (d.getD 0 0) = true
        · have : ¬ d.getD 1 0 = 61 := fun q => h2 ⟨hcap, q⟩
          simp (disch := omega) only [hcap, Bool.false_eq_true, Option.bind_some, Option.map_some, rb_cI, rb_cL, rb_cR, rb_cV, reduceIte, ite_true, ite_false, not_true_eq_false, not_false_eq_true, true_and, and_true, Nat.reduceEqDiff, Nat.reduceAdd, Nat.reduceMul, Nat.add_sub_cancel, nI_1, u_lt, u_le, u_eq, u_add, u_ix, u_ixL, u_ixR, u_cl, u_nm1, u_nm1', u_m1l, u_m1n, if_pos, if_neg, this]
        · simp (disch := omega) only [hcap, Bool.false_eq_true, Option.bind_some, Option.map_some, rb_cI, rb_cL, rb_cR, rb_cV, reduceIte, ite_true, ite_false, not_true_eq_false, not_false_eq_true, true_and, and_true, Nat.reduceEqDiff, Nat.reduceAdd, Nat.reduceMul, Nat.add_sub_cancel, nI_1, u_lt, u_le, u_eq, u_add, u_ix, u_ixL, u_ixR, u_cl, u_nm1, u_nm1', u_m1l, u_m1n, if_pos, if_neg]
  · refine no ?_ ?_
    · unfold x_set
      rw [decide_eq_false (fun q => h1 ⟨q.1, q.2.1⟩), Bool.false_and]
    · unfold f_M_set
      by_cases h2 : d.length < 2
      · simp (disch := omega) only [fx_rm, Bool.false_eq_true, Option.bind_some, Option.map_some, rb_cI, rb_cL, rb_cR, rb_cV, reduceIte, ite_true, ite_false, not_true_eq_false, not_false_eq_true, true_and, and_true, Nat.reduceEqDiff, Nat.reduceAdd, Nat.reduceMul, Nat.add_sub_cancel, hm.1, u_l0, u_l1, u_l2, u_l3, u_l4, u_l6, u_l7, u_l8, u_l9, u_l10, u_l14, u_l16, u_l18, u_l26, u_l31, u_l32, u_l36, u_l37, u_l40, u_l41, u_l42, u_l46, u_l48, u_l57, u_l58, u_l60, u_l61, u_l62, u_l63, u_l64, u_l65, u_l80, u_l90, u_l92, u_l95, u_l97, u_l120, u_l122, u_l126, u_l127, u_l320, u_l400, nI_1, u_lt, u_le, u_eq, u_add, u_ix, u_ixL, u_ixR, u_cl, u_nm1, u_nm1', u_m1l, u_m1n, if_pos, if_neg]
      · simp (disch := omega) only [fx_rm, Bool.false_eq_true, Option.bind_some, Option.map_some, rb_cI, rb_cL, rb_cR, rb_cV, reduceIte, ite_true, ite_false, not_true_eq_false, not_false_eq_true, true_and, and_true, Nat.reduceEqDiff, Nat.reduceAdd, Nat.reduceMul, Nat.add_sub_cancel, hm.1, u_l0, u_l1, u_l2, u_l3, u_l4, u_l6, u_l7, u_l8, u_l9, u_l10, u_l14, u_l16, u_l18, u_l26, u_l31, u_l32, u_l36, u_l37, u_l40, u_l41, u_l42, u_l46, u_l48, u_l57, u_l58, u_l60, u_l61, u_l62, u_l63, u_l64, u_l65, u_l80, u_l90, u_l92, u_l95, u_l97, u_l120, u_l122, u_l126, u_l127, u_l320, u_l400, nI_1, u_lt, u_le, u_eq, u_add, u_ix, u_ixL, u_ixR, u_cl, u_nm1, u_nm1', u_m1l, u_m1n, if_pos, if_neg]
end
